-- IronedQuarrels$Heap.hasNumber(I)Z
def wp_X1_hasNumber (size : Int32) (i : Int32) (post : Int32 → Prop) : Prop :=
  (i < 0 → (post (0 : Int32))) ∧ (¬ i < 0 → ((size ≤ i → (post (0 : Int32))) ∧ (¬ size ≤ i → (post (1 : Int32)))))
def rm_X1_hasNumber : Room := { frames := 0, cells := 0, slots := 0, locals := 0 }
theorem k_X1_hasNumber_1 : Cond.fieldLink RX1 33 "IronedQuarrels$Heap" "size" "I" ∈ wsX1_hasNumber := List.mem_of_getElem? (i := 1) (by decide +kernel)
theorem hi_X1_hasNumber_X1 : ∀ w ∈ wsX10, w ∈ wsX1_hasNumber := fun w h => List.mem_cons_of_mem _ (List.mem_append_right _ h)
set_option maxHeartbeats 4000000 in
set_option maxRecDepth 100000 in
theorem c_X1_hasNumber (l : Launch) (D : va_G) (ca : Nat → ClassId) (a : Nat → Nat) (kinds : Nat → Int32) (whos : Nat → Int32) (toWhoms : Nat → Int32) (topics : Nat → Int32) (weights : Nat → Int32) (answered : Nat → Int32) (deeds : Nat → Int32) (size : Int32) (saidBits : Int32) (deedCount : Int32) (i : Int32) (post : Int32 → Prop) (h : wp_X1_hasNumber size i post) : Met l yX1_hasNumber wsX1_hasNumber rm_X1_hasNumber (PcX D ca [.ref (a 0), .int i] (W_X1 ca a kinds whos toWhoms topics weights answered deeds size saidBits deedCount)) (rdZ post) 0 0 (fun _ => False) := by
  refine Met.ofW (cc := cX1_hasNumber) (maxL := 2) (ret := (some .boolean)) (by decide) rfl ?_
  intro zp ze zs zm za zb zt zc z1 B hml hv
  obtain ⟨rfl, hP, hK⟩ := hv
  have hx := B.exec
  have hb := B.bytes
  have hr := B.returns
  have hts := atoms_spec (ws := wsX1_hasNumber) B.pre
  have hown : zs.vm.findClass RX1 = some zm.cls := findClass_of_methodNamed B.named
  have hlocks := B.notSynchronized
  have hl := lv_entry ([.ref (a 0), .int i]) (n := 2) (Nat.le_of_ble_eq_true rfl)
  rw [lg_entry_eq]
  generalize (lg_sl ([.ref (a 0), .int i]) ++ List.replicate (2 - (lg_sl ([.ref (a 0), .int i])).length) Slot.unset).toArray = ls at hl ⊢
  replace hl : lv_has ls 2 [(0, .ref (a 0)), (1, .int i)] := hl
  show W zp l ze rm_X1_hasNumber zs zm ([.ref (a 0), .int i] : List Value).toArray zb zt zc zs.heap [] 0 0 (MQ zb (rdZ post) ([.ref (a 0), .int i] : List Value).toArray zs 0 0 (fun _ => False)) (F0 zm 0 ls [])
  unfold wp_X1_hasNumber at h
  refine lv_iload_n hx hb dX1_hasNumber_0 rfl (lv_at hl 1 rfl) ?_
  refine lv_if_lt (tgt := 16) hx hb dX1_hasNumber_1 (by decide) (fun hc => ?_) (fun hc => ?_)
  · have h := h.1 hc
    refine lv_iconst (v := (0)) hx hb dX1_hasNumber_16 (by decide) ?_
    exact W.zret (v := (0 : Int32)) hx hb hr nar0 (fun t ht hW => ⟨(0 : Int32), rfl, ⟨h, nar0⟩, ht⟩) (fun q hq => absurd hq List.not_mem_nil) dX1_hasNumber_17
  · have h := h.2 hc
    refine lv_iload_n hx hb dX1_hasNumber_4 rfl (lv_at hl 1 rfl) ?_
    refine lv_aload_n hx hb dX1_hasNumber_5 rfl (lv_at hl 0 rfl) ?_
    refine va_get (D := D) (ci := 1) (v := .int size) (C := RX1) (T := TX1) (N := 10) hx hb hts hi_X1_hasNumber_X1 hown hK.1 hP 0 rfl rfl 7 (by decide) (hts _ k_X1_hasNumber_1) (fun _ h9 => h9) rfl dX1_hasNumber_6 ?_
    refine lv_icmp_ge (tgt := 16) hx hb dX1_hasNumber_9 (by decide) (fun hc => ?_) (fun hc => ?_)
    · have h := h.1 hc
      refine lv_iconst (v := (0)) hx hb dX1_hasNumber_16 (by decide) ?_
      exact W.zret (v := (0 : Int32)) hx hb hr nar0 (fun t ht hW => ⟨(0 : Int32), rfl, ⟨h, nar0⟩, ht⟩) (fun q hq => absurd hq List.not_mem_nil) dX1_hasNumber_17
    · have h := h.2 hc
      refine lv_iconst (v := (1)) hx hb dX1_hasNumber_12 (by decide) ?_
      refine lv_goto (tgt := 17) hx hb dX1_hasNumber_13 (by decide) ?_
      exact W.zret (v := (1 : Int32)) hx hb hr nar1 (fun t ht hW => ⟨(1 : Int32), rfl, ⟨h, nar1⟩, ht⟩) (fun q hq => absurd hq List.not_mem_nil) dX1_hasNumber_17

-- IronedQuarrels$Heap.isSaid(I)Z
def wp_X1_isSaid (saidBits : Int32) (i : Int32) (post : Int32 → Prop) : Prop :=
  wp_X7_hasBit saidBits i (fun r1 => post r1)
def rm_X1_isSaid : Room := { frames := 1, cells := 0, slots := 0, locals := 21 }
theorem k_X1_isSaid_1 : Cond.fieldLink RX1 37 "IronedQuarrels$Heap" "saidBits" "I" ∈ wsX1_isSaid := List.mem_of_getElem? (i := 1) (by decide +kernel)
theorem k_X1_isSaid_2 : Cond.static yX7_hasBit ∈ wsX1_isSaid := List.mem_of_getElem? (i := 2) (by decide +kernel)
theorem k_X1_isSaid_3 : Cond.initialized RX7 ∈ wsX1_isSaid := List.mem_of_getElem? (i := 3) (by decide +kernel)
theorem hi_X1_isSaid_X1 : ∀ w ∈ wsX10, w ∈ wsX1_isSaid := fun w h => List.mem_cons_of_mem _ (List.mem_append_right _ h)
set_option maxHeartbeats 4000000 in
set_option maxRecDepth 100000 in
theorem c_X1_isSaid (l : Launch) (D : va_G) (ca : Nat → ClassId) (a : Nat → Nat) (kinds : Nat → Int32) (whos : Nat → Int32) (toWhoms : Nat → Int32) (topics : Nat → Int32) (weights : Nat → Int32) (answered : Nat → Int32) (deeds : Nat → Int32) (size : Int32) (saidBits : Int32) (deedCount : Int32) (i : Int32) (post : Int32 → Prop) (h : wp_X1_isSaid saidBits i post) : Met l yX1_isSaid wsX1_isSaid rm_X1_isSaid (PcX D ca [.ref (a 0), .int i] (W_X1 ca a kinds whos toWhoms topics weights answered deeds size saidBits deedCount)) (rdZ post) 0 0 (fun _ => False) := by
  refine Met.ofW (cc := cX1_isSaid) (maxL := 2) (ret := (some .boolean)) (by decide) rfl ?_
  intro zp ze zs zm za zb zt zc z1 B hml hv
  obtain ⟨rfl, hP, hK⟩ := hv
  have hx := B.exec
  have hb := B.bytes
  have hr := B.returns
  have hts := atoms_spec (ws := wsX1_isSaid) B.pre
  have hown : zs.vm.findClass RX1 = some zm.cls := findClass_of_methodNamed B.named
  have hlocks := B.notSynchronized
  have hl := lv_entry ([.ref (a 0), .int i]) (n := 2) (Nat.le_of_ble_eq_true rfl)
  rw [lg_entry_eq]
  generalize (lg_sl ([.ref (a 0), .int i]) ++ List.replicate (2 - (lg_sl ([.ref (a 0), .int i])).length) Slot.unset).toArray = ls at hl ⊢
  replace hl : lv_has ls 2 [(0, .ref (a 0)), (1, .int i)] := hl
  show W zp l ze rm_X1_isSaid zs zm ([.ref (a 0), .int i] : List Value).toArray zb zt zc zs.heap [] 0 0 (MQ zb (rdZ post) ([.ref (a 0), .int i] : List Value).toArray zs 0 0 (fun _ => False)) (F0 zm 0 ls [])
  unfold wp_X1_isSaid at h
  refine lv_aload_n hx hb dX1_isSaid_0 rfl (lv_at hl 0 rfl) ?_
  refine va_get (D := D) (ci := 1) (v := .int saidBits) (C := RX1) (T := TX1) (N := 10) hx hb hts hi_X1_isSaid_X1 hown hK.1 hP 0 rfl rfl 8 (by decide) (hts _ k_X1_isSaid_1) (fun _ h9 => h9) rfl dX1_isSaid_1 ?_
  refine lv_iload_n hx hb dX1_isSaid_4 rfl (lv_at hl 1 rfl) ?_
  refine rd_callz (va_runSN (As := [.int saidBits, .int i]) (rest := []) ⟨hx, hb, hml, hown, hts⟩ (c_X7_hasBit l D ca   saidBits i _ h) ⟨va_cnB 2 hts gX1_isSaid_X7_hasBit_n57 rfl rfl rfl (hK.2 (RX1, 57, yX7_hasBit, "IronedQuarrels") (List.mem_of_getElem? (i := 6) rfl)) (hts _ k_X1_isSaid_3) (by decide +kernel) ⟨Nat.le_of_ble_eq_true rfl, Nat.le_of_ble_eq_true rfl⟩, hts _ k_X1_isSaid_2, trivial⟩ (PcX.preS hK (fun k q h => by simp at h)) rfl rfl hl.1 rfl (lv_room (Nat.le_of_ble_eq_true rfl)) dX1_isSaid_5 ⟨Nat.le_of_ble_eq_true rfl, Nat.le_of_ble_eq_true rfl⟩) (fun r1 h hz_r1 => ?_)
  try dsimp only at h
  exact W.zret (v := r1) hx hb hr hz_r1 (fun t ht hW => ⟨r1, rfl, ⟨h, hz_r1⟩, ht⟩) (fun q hq => absurd hq List.not_mem_nil) dX1_isSaid_8

-- IronedQuarrels$Heap.between(II)I
def wb_X1_between_58 (K5 : (Int32) → (Int32) → Prop) (x3 : Int32) (x4 : Int32) : Prop :=
  wp_X7_bit x4 (fun r1 => K5 (x3 ||| r1) (x4 + 1))
def wb_X1_between_36 (whos : Nat → Int32) (toWhoms : Nat → Int32) (p : Int32) (q : Int32) (K5 : (Int32) → (Int32) → Prop) (x3 : Int32) (x4 : Int32) : Prop :=
  vp_in x4 12 ∧ (¬ (whos x4.toNatClampNeg) = q → (K5 x3 (x4 + 1))) ∧ ((whos x4.toNatClampNeg) = q → (vp_in x4 12 ∧ (¬ (toWhoms x4.toNatClampNeg) = p → (K5 x3 (x4 + 1))) ∧ ((toWhoms x4.toNatClampNeg) = p → (wb_X1_between_58 K5 x3 x4))))
def wb_X1_between_5 (whos : Nat → Int32) (toWhoms : Nat → Int32) (size : Int32) (p : Int32) (q : Int32) (post : Int32 → Prop) (K5 : (Int32) → (Int32) → Prop) (x3 : Int32) (x4 : Int32) : Prop :=
  (size ≤ x4 → (post x3)) ∧ (¬ size ≤ x4 → (vp_in x4 12 ∧ (¬ (whos x4.toNatClampNeg) = p → (wb_X1_between_36 whos toWhoms p q K5 x3 x4)) ∧ ((whos x4.toNatClampNeg) = p → (vp_in x4 12 ∧ ((toWhoms x4.toNatClampNeg) = q → (wb_X1_between_58 K5 x3 x4)) ∧ (¬ (toWhoms x4.toNatClampNeg) = q → (wb_X1_between_36 whos toWhoms p q K5 x3 x4))))))
def wl_X1_between_5 (whos : Nat → Int32) (toWhoms : Nat → Int32) (size : Int32) (p : Int32) (q : Int32) (post : Int32 → Prop) : Nat → (Int32) → (Int32) → Prop
  | 0 => fun _ _ => False
  | zn + 1 => wb_X1_between_5 whos toWhoms size p q post (wl_X1_between_5 whos toWhoms size p q post zn)
def wp_X1_between (whos : Nat → Int32) (toWhoms : Nat → Int32) (size : Int32) (p : Int32) (q : Int32) (post : Int32 → Prop) : Prop :=
  ∃ zn, wl_X1_between_5 whos toWhoms size p q post zn (0 : Int32) (0 : Int32)
def rm_X1_between : Room := { frames := 1, cells := 0, slots := 0, locals := 20 }
theorem k_X1_between_1 : Cond.fieldLink RX1 33 "IronedQuarrels$Heap" "size" "I" ∈ wsX1_between := List.mem_of_getElem? (i := 1) (by decide +kernel)
theorem k_X1_between_2 : Cond.fieldLink RX1 15 "IronedQuarrels$Heap" "whos" "[I" ∈ wsX1_between := List.mem_of_getElem? (i := 2) (by decide +kernel)
theorem k_X1_between_3 : Cond.fieldLink RX1 18 "IronedQuarrels$Heap" "toWhoms" "[I" ∈ wsX1_between := List.mem_of_getElem? (i := 3) (by decide +kernel)
theorem k_X1_between_4 : Cond.static yX7_bit ∈ wsX1_between := List.mem_of_getElem? (i := 4) (by decide +kernel)
theorem k_X1_between_5 : Cond.initialized RX7 ∈ wsX1_between := List.mem_of_getElem? (i := 5) (by decide +kernel)
theorem hi_X1_between_X1 : ∀ w ∈ wsX10, w ∈ wsX1_between := fun w h => List.mem_cons_of_mem _ (List.mem_append_right _ h)
set_option maxHeartbeats 4000000 in
set_option maxRecDepth 100000 in
theorem c_X1_between (l : Launch) (D : va_G) (ca : Nat → ClassId) (a : Nat → Nat) (kinds : Nat → Int32) (whos : Nat → Int32) (toWhoms : Nat → Int32) (topics : Nat → Int32) (weights : Nat → Int32) (answered : Nat → Int32) (deeds : Nat → Int32) (size : Int32) (saidBits : Int32) (deedCount : Int32) (p : Int32) (q : Int32) (post : Int32 → Prop) (h : wp_X1_between whos toWhoms size p q post) : Met l yX1_between wsX1_between rm_X1_between (PcX D ca [.ref (a 0), .int p, .int q] (W_X1 ca a kinds whos toWhoms topics weights answered deeds size saidBits deedCount)) (rdI post) 0 0 (fun _ => False) := by
  refine Met.ofW (cc := cX1_between) (maxL := 5) (ret := (some .int)) (by decide) rfl ?_
  intro zp ze zs zm za zb zt zc z1 B hml hv
  obtain ⟨rfl, hP, hK⟩ := hv
  have hx := B.exec
  have hb := B.bytes
  have hr := B.returns
  have hts := atoms_spec (ws := wsX1_between) B.pre
  have hown : zs.vm.findClass RX1 = some zm.cls := findClass_of_methodNamed B.named
  have hlocks := B.notSynchronized
  have hl := lv_entry ([.ref (a 0), .int p, .int q]) (n := 5) (Nat.le_of_ble_eq_true rfl)
  rw [lg_entry_eq]
  generalize (lg_sl ([.ref (a 0), .int p, .int q]) ++ List.replicate (5 - (lg_sl ([.ref (a 0), .int p, .int q])).length) Slot.unset).toArray = ls at hl ⊢
  replace hl : lv_has ls 5 [(0, .ref (a 0)), (1, .int p), (2, .int q)] := hl
  show W zp l ze rm_X1_between zs zm ([.ref (a 0), .int p, .int q] : List Value).toArray zb zt zc zs.heap [] 0 0 (MQ zb (rdI post) ([.ref (a 0), .int p, .int q] : List Value).toArray zs 0 0 (fun _ => False)) (F0 zm 0 ls [])
  have w_58 : ∀ (K5 : (Int32) → (Int32) → Prop) (ih5 : ∀ (x3 : Int32) (x4 : Int32), K5 x3 x4 → ∀ ls : Array Slot, lv_has ls 5 [(0, .ref (a 0)), (1, .int p), (2, .int q), (3, .int x3), (4, .int x4)] → W zp l ze rm_X1_between zs zm ([.ref (a 0), .int p, .int q] : List Value).toArray zb zt zc zs.heap [] 0 0 (MQ zb (rdI post) ([.ref (a 0), .int p, .int q] : List Value).toArray zs 0 0 (fun _ => False)) (F0 zm 5 ls [])) (x3 : Int32) (x4 : Int32), wb_X1_between_58 K5 x3 x4 → ∀ ls : Array Slot, lv_has ls 5 [(0, .ref (a 0)), (1, .int p), (2, .int q), (3, .int x3), (4, .int x4)] → W zp l ze rm_X1_between zs zm ([.ref (a 0), .int p, .int q] : List Value).toArray zb zt zc zs.heap [] 0 0 (MQ zb (rdI post) ([.ref (a 0), .int p, .int q] : List Value).toArray zs 0 0 (fun _ => False)) (F0 zm 58 ls []) := by
    intro K5 ih5 x3 x4 h ls hl
    unfold wb_X1_between_58 at h
    refine lv_iload_n hx hb dX1_between_58 rfl (lv_at hl 3 rfl) ?_
    refine lv_iload hx hb dX1_between_59 (lv_at hl 4 rfl) ?_
    refine rd_calli (va_runSN (As := [.int x4]) (rest := [.int x3]) ⟨hx, hb, hml, hown, hts⟩ (c_X7_bit l D ca   x4 _ h) ⟨va_cnB 1 hts gX1_between_X7_bit_n53 rfl rfl rfl (hK.2 (RX1, 53, yX7_bit, "IronedQuarrels") (List.mem_of_getElem? (i := 5) rfl)) (hts _ k_X1_between_5) (by decide +kernel) ⟨Nat.le_of_ble_eq_true rfl, Nat.le_of_ble_eq_true rfl⟩, hts _ k_X1_between_4, trivial⟩ (PcX.preS hK (fun k q h => by simp at h)) rfl rfl hl.1 rfl (lv_room (Nat.le_of_ble_eq_true rfl)) dX1_between_61 ⟨Nat.le_of_ble_eq_true rfl, Nat.le_of_ble_eq_true rfl⟩) (fun r1 h => ?_)
    try dsimp only at h
    refine lv_ior hx hb dX1_between_64 ?_
    refine lv_istore_n (lv' := [(3, .int (x3 ||| r1)), (0, .ref (a 0)), (1, .int p), (2, .int q), (4, .int x4)]) hx hb dX1_between_65 rfl hl (by decide) rfl (fun ls hl => ?_)
    refine lv_iinc (v := x4 + 1) (lv' := [(4, .int (x4 + 1)), (3, .int (x3 ||| r1)), (0, .ref (a 0)), (1, .int p), (2, .int q)]) hx hb dX1_between_66 hl (k := 4) rfl rfl (by decide) rfl (fun ls hl => ?_)
    refine lv_goto (tgt := 5) hx hb dX1_between_69 (by decide) ?_
    exact ih5 (x3 ||| r1) (x4 + 1) h ls (lv_sub hl [2, 3, 4, 1, 0] rfl)
  have w_36 : ∀ (K5 : (Int32) → (Int32) → Prop) (ih5 : ∀ (x3 : Int32) (x4 : Int32), K5 x3 x4 → ∀ ls : Array Slot, lv_has ls 5 [(0, .ref (a 0)), (1, .int p), (2, .int q), (3, .int x3), (4, .int x4)] → W zp l ze rm_X1_between zs zm ([.ref (a 0), .int p, .int q] : List Value).toArray zb zt zc zs.heap [] 0 0 (MQ zb (rdI post) ([.ref (a 0), .int p, .int q] : List Value).toArray zs 0 0 (fun _ => False)) (F0 zm 5 ls [])) (x3 : Int32) (x4 : Int32), wb_X1_between_36 whos toWhoms p q K5 x3 x4 → ∀ ls : Array Slot, lv_has ls 5 [(0, .ref (a 0)), (1, .int p), (2, .int q), (3, .int x3), (4, .int x4)] → W zp l ze rm_X1_between zs zm ([.ref (a 0), .int p, .int q] : List Value).toArray zb zt zc zs.heap [] 0 0 (MQ zb (rdI post) ([.ref (a 0), .int p, .int q] : List Value).toArray zs 0 0 (fun _ => False)) (F0 zm 36 ls []) := by
    intro K5 ih5 x3 x4 h ls hl
    unfold wb_X1_between_36 at h
    refine lv_aload_n hx hb dX1_between_36 rfl (lv_at hl 0 rfl) ?_
    refine va_get (D := D) (ci := 1) (v := .ref (a 2)) (C := RX1) (T := TX1) (N := 10) hx hb hts hi_X1_between_X1 hown hK.1 hP 0 rfl rfl 1 (by decide) (hts _ k_X1_between_2) (fun _ h9 => h9) rfl dX1_between_37 ?_
    refine lv_iload hx hb dX1_between_40 (lv_at hl 4 rfl) ?_
    obtain ⟨hi, h⟩ := h
    refine x_iald (v := whos x4.toNatClampNeg) hx hb hK hP 2 rfl hi rfl dX1_between_42 ?_
    refine lv_iload_n hx hb dX1_between_43 rfl (lv_at hl 2 rfl) ?_
    refine lv_icmp_ne (tgt := 66) hx hb dX1_between_44 (by decide) (fun hc => ?_) (fun hc => ?_)
    · have h := h.1 hc
      refine lv_iinc (v := x4 + 1) (lv' := [(4, .int (x4 + 1)), (0, .ref (a 0)), (1, .int p), (2, .int q), (3, .int x3)]) hx hb dX1_between_66 hl (k := 4) rfl rfl (by decide) rfl (fun ls hl => ?_)
      refine lv_goto (tgt := 5) hx hb dX1_between_69 (by decide) ?_
      exact ih5 x3 (x4 + 1) h ls (lv_sub hl [1, 2, 3, 4, 0] rfl)
    · have h := h.2 hc
      refine lv_aload_n hx hb dX1_between_47 rfl (lv_at hl 0 rfl) ?_
      refine va_get (D := D) (ci := 1) (v := .ref (a 3)) (C := RX1) (T := TX1) (N := 10) hx hb hts hi_X1_between_X1 hown hK.1 hP 0 rfl rfl 2 (by decide) (hts _ k_X1_between_3) (fun _ h9 => h9) rfl dX1_between_48 ?_
      refine lv_iload hx hb dX1_between_51 (lv_at hl 4 rfl) ?_
      obtain ⟨hi, h⟩ := h
      refine x_iald (v := toWhoms x4.toNatClampNeg) hx hb hK hP 3 rfl hi rfl dX1_between_53 ?_
      refine lv_iload_n hx hb dX1_between_54 rfl (lv_at hl 1 rfl) ?_
      refine lv_icmp_ne (tgt := 66) hx hb dX1_between_55 (by decide) (fun hc => ?_) (fun hc => ?_)
      · have h := h.1 hc
        refine lv_iinc (v := x4 + 1) (lv' := [(4, .int (x4 + 1)), (0, .ref (a 0)), (1, .int p), (2, .int q), (3, .int x3)]) hx hb dX1_between_66 hl (k := 4) rfl rfl (by decide) rfl (fun ls hl => ?_)
        refine lv_goto (tgt := 5) hx hb dX1_between_69 (by decide) ?_
        exact ih5 x3 (x4 + 1) h ls (lv_sub hl [1, 2, 3, 4, 0] rfl)
      · have h := h.2 hc
        exact w_58 _ ih5 x3 x4 h ls (lv_sub hl [0, 1, 2, 3, 4] rfl)
  have w_5 : ∀ (zn : Nat) (x3 : Int32) (x4 : Int32), wl_X1_between_5 whos toWhoms size p q post zn x3 x4 → ∀ ls : Array Slot, lv_has ls 5 [(0, .ref (a 0)), (1, .int p), (2, .int q), (3, .int x3), (4, .int x4)] → W zp l ze rm_X1_between zs zm ([.ref (a 0), .int p, .int q] : List Value).toArray zb zt zc zs.heap [] 0 0 (MQ zb (rdI post) ([.ref (a 0), .int p, .int q] : List Value).toArray zs 0 0 (fun _ => False)) (F0 zm 5 ls []) := by
    intro zn
    induction zn with
    | zero => intro x3 x4 h; exact h.elim
    | succ zn ih5 =>
      intro x3 x4 h ls hl
      replace h : wb_X1_between_5 whos toWhoms size p q post (wl_X1_between_5 whos toWhoms size p q post zn) x3 x4 := h
      unfold wb_X1_between_5 at h
      refine lv_iload hx hb dX1_between_5 (lv_at hl 4 rfl) ?_
      refine lv_aload_n hx hb dX1_between_7 rfl (lv_at hl 0 rfl) ?_
      refine va_get (D := D) (ci := 1) (v := .int size) (C := RX1) (T := TX1) (N := 10) hx hb hts hi_X1_between_X1 hown hK.1 hP 0 rfl rfl 7 (by decide) (hts _ k_X1_between_1) (fun _ h9 => h9) rfl dX1_between_8 ?_
      refine lv_icmp_ge (tgt := 72) hx hb dX1_between_11 (by decide) (fun hc => ?_) (fun hc => ?_)
      · have h := h.1 hc
        refine lv_iload_n hx hb dX1_between_72 rfl (lv_at hl 3 rfl) ?_
        exact W.iret (v := x3) hx hb hr (fun t ht hW => ⟨x3, rfl, h, ht⟩) (fun q hq => absurd hq List.not_mem_nil) dX1_between_73
      · have h := h.2 hc
        refine lv_aload_n hx hb dX1_between_14 rfl (lv_at hl 0 rfl) ?_
        refine va_get (D := D) (ci := 1) (v := .ref (a 2)) (C := RX1) (T := TX1) (N := 10) hx hb hts hi_X1_between_X1 hown hK.1 hP 0 rfl rfl 1 (by decide) (hts _ k_X1_between_2) (fun _ h9 => h9) rfl dX1_between_15 ?_
        refine lv_iload hx hb dX1_between_18 (lv_at hl 4 rfl) ?_
        obtain ⟨hi, h⟩ := h
        refine x_iald (v := whos x4.toNatClampNeg) hx hb hK hP 2 rfl hi rfl dX1_between_20 ?_
        refine lv_iload_n hx hb dX1_between_21 rfl (lv_at hl 1 rfl) ?_
        refine lv_icmp_ne (tgt := 36) hx hb dX1_between_22 (by decide) (fun hc => ?_) (fun hc => ?_)
        · have h := h.1 hc
          exact w_36 _ ih5 x3 x4 h ls (lv_sub hl [0, 1, 2, 3, 4] rfl)
        · have h := h.2 hc
          refine lv_aload_n hx hb dX1_between_25 rfl (lv_at hl 0 rfl) ?_
          refine va_get (D := D) (ci := 1) (v := .ref (a 3)) (C := RX1) (T := TX1) (N := 10) hx hb hts hi_X1_between_X1 hown hK.1 hP 0 rfl rfl 2 (by decide) (hts _ k_X1_between_3) (fun _ h9 => h9) rfl dX1_between_26 ?_
          refine lv_iload hx hb dX1_between_29 (lv_at hl 4 rfl) ?_
          obtain ⟨hi, h⟩ := h
          refine x_iald (v := toWhoms x4.toNatClampNeg) hx hb hK hP 3 rfl hi rfl dX1_between_31 ?_
          refine lv_iload_n hx hb dX1_between_32 rfl (lv_at hl 2 rfl) ?_
          refine lv_icmp_eq (tgt := 58) hx hb dX1_between_33 (by decide) (fun hc => ?_) (fun hc => ?_)
          · have h := h.1 hc
            exact w_58 _ ih5 x3 x4 h ls (lv_sub hl [0, 1, 2, 3, 4] rfl)
          · have h := h.2 hc
            exact w_36 _ ih5 x3 x4 h ls (lv_sub hl [0, 1, 2, 3, 4] rfl)
  unfold wp_X1_between at h
  refine lv_iconst (v := (0)) hx hb dX1_between_0 (by decide) ?_
  refine lv_istore_n (lv' := [(3, .int (0 : Int32)), (0, .ref (a 0)), (1, .int p), (2, .int q)]) hx hb dX1_between_1 rfl hl (by decide) rfl (fun ls hl => ?_)
  refine lv_iconst (v := (0)) hx hb dX1_between_2 (by decide) ?_
  refine lv_istore (lv' := [(4, .int (0 : Int32)), (3, .int (0 : Int32)), (0, .ref (a 0)), (1, .int p), (2, .int q)]) hx hb dX1_between_3 hl (by decide) rfl (fun ls hl => ?_)
  obtain ⟨zn, h⟩ := h
  exact w_5  zn (0 : Int32) (0 : Int32) h ls (lv_sub hl [2, 3, 4, 1, 0] rfl)

-- IronedQuarrels$Heap.others(I)I
def wp_X1_others (whos : Nat → Int32) (toWhoms : Nat → Int32) (size : Int32) (i : Int32) (post : Int32 → Prop) : Prop :=
  vp_in i 12 ∧ vp_in i 12 ∧ wp_X1_between whos toWhoms size (whos i.toNatClampNeg) (toWhoms i.toNatClampNeg) (fun r1 => wp_X7_bit i (fun r2 => post (r1 &&& (r2 ^^^ (-1 : Int32)))))
def rm_X1_others : Room := { frames := 2, cells := 0, slots := 0, locals := 44 }
theorem k_X1_others_1 : Cond.fieldLink RX1 15 "IronedQuarrels$Heap" "whos" "[I" ∈ wsX1_others := List.mem_of_getElem? (i := 1) (by decide +kernel)
theorem k_X1_others_2 : Cond.fieldLink RX1 18 "IronedQuarrels$Heap" "toWhoms" "[I" ∈ wsX1_others := List.mem_of_getElem? (i := 2) (by decide +kernel)
theorem k_X1_others_9 : Cond.static yX7_bit ∈ wsX1_others := List.mem_of_getElem? (i := 9) (by decide +kernel)
theorem k_X1_others_10 : Cond.initialized RX7 ∈ wsX1_others := List.mem_of_getElem? (i := 10) (by decide +kernel)
theorem hi_X1_others_X1 : ∀ w ∈ wsX10, w ∈ wsX1_others := fun w h => List.mem_cons_of_mem _ (List.mem_append_right _ h)
set_option maxHeartbeats 4000000 in
set_option maxRecDepth 100000 in
theorem c_X1_others (l : Launch) (D : va_G) (ca : Nat → ClassId) (a : Nat → Nat) (kinds : Nat → Int32) (whos : Nat → Int32) (toWhoms : Nat → Int32) (topics : Nat → Int32) (weights : Nat → Int32) (answered : Nat → Int32) (deeds : Nat → Int32) (size : Int32) (saidBits : Int32) (deedCount : Int32) (i : Int32) (post : Int32 → Prop) (h : wp_X1_others whos toWhoms size i post) : Met l yX1_others wsX1_others rm_X1_others (PcX D ca [.ref (a 0), .int i] (W_X1 ca a kinds whos toWhoms topics weights answered deeds size saidBits deedCount)) (rdI post) 0 0 (fun _ => False) := by
  refine Met.ofW (cc := cX1_others) (maxL := 2) (ret := (some .int)) (by decide) rfl ?_
  intro zp ze zs zm za zb zt zc z1 B hml hv
  obtain ⟨rfl, hP, hK⟩ := hv
  have hx := B.exec
  have hb := B.bytes
  have hr := B.returns
  have hts := atoms_spec (ws := wsX1_others) B.pre
  have hown : zs.vm.findClass RX1 = some zm.cls := findClass_of_methodNamed B.named
  have hlocks := B.notSynchronized
  have hl := lv_entry ([.ref (a 0), .int i]) (n := 2) (Nat.le_of_ble_eq_true rfl)
  rw [lg_entry_eq]
  generalize (lg_sl ([.ref (a 0), .int i]) ++ List.replicate (2 - (lg_sl ([.ref (a 0), .int i])).length) Slot.unset).toArray = ls at hl ⊢
  replace hl : lv_has ls 2 [(0, .ref (a 0)), (1, .int i)] := hl
  show W zp l ze rm_X1_others zs zm ([.ref (a 0), .int i] : List Value).toArray zb zt zc zs.heap [] 0 0 (MQ zb (rdI post) ([.ref (a 0), .int i] : List Value).toArray zs 0 0 (fun _ => False)) (F0 zm 0 ls [])
  unfold wp_X1_others at h
  refine lv_aload_n hx hb dX1_others_0 rfl (lv_at hl 0 rfl) ?_
  refine lv_aload_n hx hb dX1_others_1 rfl (lv_at hl 0 rfl) ?_
  refine va_get (D := D) (ci := 1) (v := .ref (a 2)) (C := RX1) (T := TX1) (N := 10) hx hb hts hi_X1_others_X1 hown hK.1 hP 0 rfl rfl 1 (by decide) (hts _ k_X1_others_1) (fun _ h9 => h9) rfl dX1_others_2 ?_
  refine lv_iload_n hx hb dX1_others_5 rfl (lv_at hl 1 rfl) ?_
  obtain ⟨hi, h⟩ := h
  refine x_iald (v := whos i.toNatClampNeg) hx hb hK hP 2 rfl hi rfl dX1_others_6 ?_
  refine lv_aload_n hx hb dX1_others_7 rfl (lv_at hl 0 rfl) ?_
  refine va_get (D := D) (ci := 1) (v := .ref (a 3)) (C := RX1) (T := TX1) (N := 10) hx hb hts hi_X1_others_X1 hown hK.1 hP 0 rfl rfl 2 (by decide) (hts _ k_X1_others_2) (fun _ h9 => h9) rfl dX1_others_8 ?_
  refine lv_iload_n hx hb dX1_others_11 rfl (lv_at hl 1 rfl) ?_
  obtain ⟨hi, h⟩ := h
  refine x_iald (v := toWhoms i.toNatClampNeg) hx hb hK hP 3 rfl hi rfl dX1_others_12 ?_
  refine rd_calli (va_runV (As := [.int (whos i.toNatClampNeg), .int (toWhoms i.toNatClampNeg)]) (rest := []) ⟨hx, hb, hml, hown, hts⟩ (c_X1_between l D ca a kinds whos toWhoms topics weights answered deeds size saidBits deedCount (whos i.toNatClampNeg) (toWhoms i.toNatClampNeg) _ h) (cwV 2 hts gX1_others_X1_between rfl rfl rfl (by decide +kernel) ⟨Nat.le_of_ble_eq_true rfl, Nat.le_of_ble_eq_true rfl⟩) (PcX.preV (q := (RX1, TX1, 10)) (ci := 1) (q0 := 0) hK hP rfl rfl hP) rfl rfl hl.1 rfl (lv_room (Nat.le_of_ble_eq_true rfl)) dX1_others_13 ⟨Nat.le_of_ble_eq_true rfl, Nat.le_of_ble_eq_true rfl⟩) (fun r1 h => ?_)
  try dsimp only at h
  refine lv_iload_n hx hb dX1_others_16 rfl (lv_at hl 1 rfl) ?_
  refine rd_calli (va_runSN (As := [.int i]) (rest := [.int r1]) ⟨hx, hb, hml, hown, hts⟩ (c_X7_bit l D ca   i _ h) ⟨va_cnB 1 hts gX1_others_X7_bit_n53 rfl rfl rfl (hK.2 (RX1, 53, yX7_bit, "IronedQuarrels") (List.mem_of_getElem? (i := 5) rfl)) (hts _ k_X1_others_10) (by decide +kernel) ⟨Nat.le_of_ble_eq_true rfl, Nat.le_of_ble_eq_true rfl⟩, hts _ k_X1_others_9, trivial⟩ (PcX.preS hK (fun k q h => by simp at h)) rfl rfl hl.1 rfl (lv_room (Nat.le_of_ble_eq_true rfl)) dX1_others_17 ⟨Nat.le_of_ble_eq_true rfl, Nat.le_of_ble_eq_true rfl⟩) (fun r2 h => ?_)
  try dsimp only at h
  refine lv_iconst (v := (-1)) hx hb dX1_others_20 (by decide) ?_
  refine lv_ixor hx hb dX1_others_21 ?_
  refine lv_iand hx hb dX1_others_22 ?_
  exact W.iret (v := r1 &&& (r2 ^^^ (-1 : Int32))) hx hb hr (fun t ht hW => ⟨r1 &&& (r2 ^^^ (-1 : Int32)), rfl, h, ht⟩) (fun q hq => absurd hq List.not_mem_nil) dX1_others_23

-- IronedQuarrels$Heap.priceAtHeat(II)I
def wb_X1_priceAtHeat_79 (weights : Nat → Int32) (i : Int32) (heat : Int32) (post : Int32 → Prop)  : Prop :=
  vp_in i 12 ∧ post (heat + (weights i.toNatClampNeg))
def wp_X1_priceAtHeat (kinds : Nat → Int32) (topics : Nat → Int32) (weights : Nat → Int32) (i : Int32) (heat : Int32) (post : Int32 → Prop) : Prop :=
  vp_in i 12 ∧ ((kinds i.toNatClampNeg) = 1 → (post (heat + (1 : Int32)))) ∧ ((kinds i.toNatClampNeg) = 2 → (wb_X1_priceAtHeat_79 weights i heat post)) ∧ ((kinds i.toNatClampNeg) = 3 → (vp_in i 12 ∧ post (heat + ((2 : Int32) * (weights i.toNatClampNeg))))) ∧ ((kinds i.toNatClampNeg) = 4 → (vp_in i 12 ∧ post ((heat + ((2 : Int32) * (weights i.toNatClampNeg))) / (2 : Int32)))) ∧ ((kinds i.toNatClampNeg) = 5 → (vp_in i 12 ∧ post ((heat + (1 : Int32)) + (topics i.toNatClampNeg)))) ∧ (¬ (kinds i.toNatClampNeg) = 1 → ¬ (kinds i.toNatClampNeg) = 2 → ¬ (kinds i.toNatClampNeg) = 3 → ¬ (kinds i.toNatClampNeg) = 4 → ¬ (kinds i.toNatClampNeg) = 5 → (wb_X1_priceAtHeat_79 weights i heat post))
def rm_X1_priceAtHeat : Room := { frames := 0, cells := 0, slots := 0, locals := 0 }
theorem k_X1_priceAtHeat_1 : Cond.fieldLink RX1 9 "IronedQuarrels$Heap" "kinds" "[I" ∈ wsX1_priceAtHeat := List.mem_of_getElem? (i := 1) (by decide +kernel)
theorem k_X1_priceAtHeat_2 : Cond.fieldLink RX1 21 "IronedQuarrels$Heap" "topics" "[I" ∈ wsX1_priceAtHeat := List.mem_of_getElem? (i := 2) (by decide +kernel)
theorem k_X1_priceAtHeat_3 : Cond.fieldLink RX1 24 "IronedQuarrels$Heap" "weights" "[I" ∈ wsX1_priceAtHeat := List.mem_of_getElem? (i := 3) (by decide +kernel)
theorem hi_X1_priceAtHeat_X1 : ∀ w ∈ wsX10, w ∈ wsX1_priceAtHeat := fun w h => List.mem_cons_of_mem _ (List.mem_append_right _ h)
set_option maxHeartbeats 4000000 in
set_option maxRecDepth 100000 in
theorem c_X1_priceAtHeat (l : Launch) (D : va_G) (ca : Nat → ClassId) (a : Nat → Nat) (kinds : Nat → Int32) (whos : Nat → Int32) (toWhoms : Nat → Int32) (topics : Nat → Int32) (weights : Nat → Int32) (answered : Nat → Int32) (deeds : Nat → Int32) (size : Int32) (saidBits : Int32) (deedCount : Int32) (i : Int32) (heat : Int32) (post : Int32 → Prop) (h : wp_X1_priceAtHeat kinds topics weights i heat post) : Met l yX1_priceAtHeat wsX1_priceAtHeat rm_X1_priceAtHeat (PcX D ca [.ref (a 0), .int i, .int heat] (W_X1 ca a kinds whos toWhoms topics weights answered deeds size saidBits deedCount)) (rdI post) 0 0 (fun _ => False) := by
  refine Met.ofW (cc := cX1_priceAtHeat) (maxL := 3) (ret := (some .int)) (by decide) rfl ?_
  intro zp ze zs zm za zb zt zc z1 B hml hv
  obtain ⟨rfl, hP, hK⟩ := hv
  have hx := B.exec
  have hb := B.bytes
  have hr := B.returns
  have hts := atoms_spec (ws := wsX1_priceAtHeat) B.pre
  have hown : zs.vm.findClass RX1 = some zm.cls := findClass_of_methodNamed B.named
  have hlocks := B.notSynchronized
  have hl := lv_entry ([.ref (a 0), .int i, .int heat]) (n := 3) (Nat.le_of_ble_eq_true rfl)
  rw [lg_entry_eq]
  generalize (lg_sl ([.ref (a 0), .int i, .int heat]) ++ List.replicate (3 - (lg_sl ([.ref (a 0), .int i, .int heat])).length) Slot.unset).toArray = ls at hl ⊢
  replace hl : lv_has ls 3 [(0, .ref (a 0)), (1, .int i), (2, .int heat)] := hl
  show W zp l ze rm_X1_priceAtHeat zs zm ([.ref (a 0), .int i, .int heat] : List Value).toArray zb zt zc zs.heap [] 0 0 (MQ zb (rdI post) ([.ref (a 0), .int i, .int heat] : List Value).toArray zs 0 0 (fun _ => False)) (F0 zm 0 ls [])
  have w_79 : ∀ (_ : Unit), wb_X1_priceAtHeat_79 weights i heat post  → ∀ ls : Array Slot, lv_has ls 3 [(0, .ref (a 0)), (1, .int i), (2, .int heat)] → W zp l ze rm_X1_priceAtHeat zs zm ([.ref (a 0), .int i, .int heat] : List Value).toArray zb zt zc zs.heap [] 0 0 (MQ zb (rdI post) ([.ref (a 0), .int i, .int heat] : List Value).toArray zs 0 0 (fun _ => False)) (F0 zm 79 ls []) := by
    intro _ h ls hl
    unfold wb_X1_priceAtHeat_79 at h
    refine lv_iload_n hx hb dX1_priceAtHeat_79 rfl (lv_at hl 2 rfl) ?_
    refine lv_aload_n hx hb dX1_priceAtHeat_80 rfl (lv_at hl 0 rfl) ?_
    refine va_get (D := D) (ci := 1) (v := .ref (a 5)) (C := RX1) (T := TX1) (N := 10) hx hb hts hi_X1_priceAtHeat_X1 hown hK.1 hP 0 rfl rfl 4 (by decide) (hts _ k_X1_priceAtHeat_3) (fun _ h9 => h9) rfl dX1_priceAtHeat_81 ?_
    refine lv_iload_n hx hb dX1_priceAtHeat_84 rfl (lv_at hl 1 rfl) ?_
    obtain ⟨hi, h⟩ := h
    refine x_iald (v := weights i.toNatClampNeg) hx hb hK hP 5 rfl hi rfl dX1_priceAtHeat_85 ?_
    refine lv_iadd hx hb dX1_priceAtHeat_86 ?_
    exact W.iret (v := heat + (weights i.toNatClampNeg)) hx hb hr (fun t ht hW => ⟨heat + (weights i.toNatClampNeg), rfl, h, ht⟩) (fun q hq => absurd hq List.not_mem_nil) dX1_priceAtHeat_87
  unfold wp_X1_priceAtHeat at h
  refine lv_aload_n hx hb dX1_priceAtHeat_0 rfl (lv_at hl 0 rfl) ?_
  refine va_get (D := D) (ci := 1) (v := .ref (a 1)) (C := RX1) (T := TX1) (N := 10) hx hb hts hi_X1_priceAtHeat_X1 hown hK.1 hP 0 rfl rfl 0 (by decide) (hts _ k_X1_priceAtHeat_1) (fun _ h9 => h9) rfl dX1_priceAtHeat_1 ?_
  refine lv_iload_n hx hb dX1_priceAtHeat_4 rfl (lv_at hl 1 rfl) ?_
  obtain ⟨hi, h⟩ := h
  refine x_iald (v := kinds i.toNatClampNeg) hx hb hK hP 1 rfl hi rfl dX1_priceAtHeat_5 ?_
  by_cases hc0 : (kinds i.toNatClampNeg) = 1
  · have h := h.1 hc0
    refine lv_tableIn (tgt := 40) hx hb dX1_priceAtHeat_6 (by rw [hc0]; decide) (by rw [hc0]; decide) (by rw [hc0]; rfl) (by decide) ?_
    refine lv_iload_n hx hb dX1_priceAtHeat_40 rfl (lv_at hl 2 rfl) ?_
    refine lv_iconst (v := (1)) hx hb dX1_priceAtHeat_41 (by decide) ?_
    refine lv_iadd hx hb dX1_priceAtHeat_42 ?_
    exact W.iret (v := heat + (1 : Int32)) hx hb hr (fun t ht hW => ⟨heat + (1 : Int32), rfl, h, ht⟩) (fun q hq => absurd hq List.not_mem_nil) dX1_priceAtHeat_43
  · have h := h.2
    by_cases hc1 : (kinds i.toNatClampNeg) = 2
    · have h := h.1 hc1
      refine lv_tableIn (tgt := 79) hx hb dX1_priceAtHeat_6 (by rw [hc1]; decide) (by rw [hc1]; decide) (by rw [hc1]; rfl) (by decide) ?_
      exact w_79  () h ls (lv_sub hl [0, 1, 2] rfl)
    · have h := h.2
      by_cases hc2 : (kinds i.toNatClampNeg) = 3
      · have h := h.1 hc2
        refine lv_tableIn (tgt := 55) hx hb dX1_priceAtHeat_6 (by rw [hc2]; decide) (by rw [hc2]; decide) (by rw [hc2]; rfl) (by decide) ?_
        refine lv_iload_n hx hb dX1_priceAtHeat_55 rfl (lv_at hl 2 rfl) ?_
        refine lv_iconst (v := (2)) hx hb dX1_priceAtHeat_56 (by decide) ?_
        refine lv_aload_n hx hb dX1_priceAtHeat_57 rfl (lv_at hl 0 rfl) ?_
        refine va_get (D := D) (ci := 1) (v := .ref (a 5)) (C := RX1) (T := TX1) (N := 10) hx hb hts hi_X1_priceAtHeat_X1 hown hK.1 hP 0 rfl rfl 4 (by decide) (hts _ k_X1_priceAtHeat_3) (fun _ h9 => h9) rfl dX1_priceAtHeat_58 ?_
        refine lv_iload_n hx hb dX1_priceAtHeat_61 rfl (lv_at hl 1 rfl) ?_
        obtain ⟨hi, h⟩ := h
        refine x_iald (v := weights i.toNatClampNeg) hx hb hK hP 5 rfl hi rfl dX1_priceAtHeat_62 ?_
        refine lv_imul hx hb dX1_priceAtHeat_63 ?_
        refine lv_iadd hx hb dX1_priceAtHeat_64 ?_
        exact W.iret (v := heat + ((2 : Int32) * (weights i.toNatClampNeg))) hx hb hr (fun t ht hW => ⟨heat + ((2 : Int32) * (weights i.toNatClampNeg)), rfl, h, ht⟩) (fun q hq => absurd hq List.not_mem_nil) dX1_priceAtHeat_65
      · have h := h.2
        by_cases hc3 : (kinds i.toNatClampNeg) = 4
        · have h := h.1 hc3
          refine lv_tableIn (tgt := 66) hx hb dX1_priceAtHeat_6 (by rw [hc3]; decide) (by rw [hc3]; decide) (by rw [hc3]; rfl) (by decide) ?_
          refine lv_iload_n hx hb dX1_priceAtHeat_66 rfl (lv_at hl 2 rfl) ?_
          refine lv_iconst (v := (2)) hx hb dX1_priceAtHeat_67 (by decide) ?_
          refine lv_aload_n hx hb dX1_priceAtHeat_68 rfl (lv_at hl 0 rfl) ?_
          refine va_get (D := D) (ci := 1) (v := .ref (a 5)) (C := RX1) (T := TX1) (N := 10) hx hb hts hi_X1_priceAtHeat_X1 hown hK.1 hP 0 rfl rfl 4 (by decide) (hts _ k_X1_priceAtHeat_3) (fun _ h9 => h9) rfl dX1_priceAtHeat_69 ?_
          refine lv_iload_n hx hb dX1_priceAtHeat_72 rfl (lv_at hl 1 rfl) ?_
          obtain ⟨hi, h⟩ := h
          refine x_iald (v := weights i.toNatClampNeg) hx hb hK hP 5 rfl hi rfl dX1_priceAtHeat_73 ?_
          refine lv_imul hx hb dX1_priceAtHeat_74 ?_
          refine lv_iadd hx hb dX1_priceAtHeat_75 ?_
          refine lv_iconst (v := (2)) hx hb dX1_priceAtHeat_76 (by decide) ?_
          refine lv_idiv hx hb dX1_priceAtHeat_77 (by decide) ?_
          exact W.iret (v := (heat + ((2 : Int32) * (weights i.toNatClampNeg))) / (2 : Int32)) hx hb hr (fun t ht hW => ⟨(heat + ((2 : Int32) * (weights i.toNatClampNeg))) / (2 : Int32), rfl, h, ht⟩) (fun q hq => absurd hq List.not_mem_nil) dX1_priceAtHeat_78
        · have h := h.2
          by_cases hc4 : (kinds i.toNatClampNeg) = 5
          · have h := h.1 hc4
            refine lv_tableIn (tgt := 44) hx hb dX1_priceAtHeat_6 (by rw [hc4]; decide) (by rw [hc4]; decide) (by rw [hc4]; rfl) (by decide) ?_
            refine lv_iload_n hx hb dX1_priceAtHeat_44 rfl (lv_at hl 2 rfl) ?_
            refine lv_iconst (v := (1)) hx hb dX1_priceAtHeat_45 (by decide) ?_
            refine lv_iadd hx hb dX1_priceAtHeat_46 ?_
            refine lv_aload_n hx hb dX1_priceAtHeat_47 rfl (lv_at hl 0 rfl) ?_
            refine va_get (D := D) (ci := 1) (v := .ref (a 4)) (C := RX1) (T := TX1) (N := 10) hx hb hts hi_X1_priceAtHeat_X1 hown hK.1 hP 0 rfl rfl 3 (by decide) (hts _ k_X1_priceAtHeat_2) (fun _ h9 => h9) rfl dX1_priceAtHeat_48 ?_
            refine lv_iload_n hx hb dX1_priceAtHeat_51 rfl (lv_at hl 1 rfl) ?_
            obtain ⟨hi, h⟩ := h
            refine x_iald (v := topics i.toNatClampNeg) hx hb hK hP 4 rfl hi rfl dX1_priceAtHeat_52 ?_
            refine lv_iadd hx hb dX1_priceAtHeat_53 ?_
            exact W.iret (v := (heat + (1 : Int32)) + (topics i.toNatClampNeg)) hx hb hr (fun t ht hW => ⟨(heat + (1 : Int32)) + (topics i.toNatClampNeg), rfl, h, ht⟩) (fun q hq => absurd hq List.not_mem_nil) dX1_priceAtHeat_54
          · have h := h.2
            have h := h hc0 hc1 hc2 hc3 hc4
            have hsw : (kinds i.toNatClampNeg).toInt < 1 ∨ 5 < (kinds i.toNatClampNeg).toInt := x_swOutL 1 5 5 (by decide) (by decide) (by decide) (fun j hj => by rcases (show j = 0 ∨ j = 1 ∨ j = 2 ∨ j = 3 ∨ j = 4 by omega) with rfl | rfl | rfl | rfl | rfl <;> assumption)
            refine lv_tableOut (tgt := 79) hx hb dX1_priceAtHeat_6 hsw (by decide) ?_
            exact w_79  () h ls (lv_sub hl [0, 1, 2] rfl)

-- IronedQuarrels$Heap.priceAmong(II)I
def wp_X1_priceAmong (kinds : Nat → Int32) (whos : Nat → Int32) (toWhoms : Nat → Int32) (topics : Nat → Int32) (weights : Nat → Int32) (size : Int32) (i : Int32) (bits : Int32) (post : Int32 → Prop) : Prop :=
  wp_X1_others whos toWhoms size i (fun r1 => wp_J6_bitCount_0f7a4 (r1 &&& bits) (fun r2 => wp_X1_priceAtHeat kinds topics weights i r2 (fun r3 => post r3)))
def rm_X1_priceAmong : Room := { frames := 3, cells := 0, slots := 0, locals := 65 }
theorem hi_X1_priceAmong_X1 : ∀ w ∈ wsX10, w ∈ wsX1_priceAmong := fun w h => List.mem_cons_of_mem _ (List.mem_append_right _ h)
set_option maxHeartbeats 4000000 in
set_option maxRecDepth 100000 in
theorem c_X1_priceAmong (l : Launch) (D : va_G) (ca : Nat → ClassId) (a : Nat → Nat) (kinds : Nat → Int32) (whos : Nat → Int32) (toWhoms : Nat → Int32) (topics : Nat → Int32) (weights : Nat → Int32) (answered : Nat → Int32) (deeds : Nat → Int32) (size : Int32) (saidBits : Int32) (deedCount : Int32) (i : Int32) (bits : Int32) (post : Int32 → Prop) (h : wp_X1_priceAmong kinds whos toWhoms topics weights size i bits post) : Met l yX1_priceAmong wsX1_priceAmong rm_X1_priceAmong (PcX D ca [.ref (a 0), .int i, .int bits] (W_X1 ca a kinds whos toWhoms topics weights answered deeds size saidBits deedCount)) (rdI post) 0 0 (fun _ => False) := by
  refine Met.ofW (cc := cX1_priceAmong) (maxL := 3) (ret := (some .int)) (by decide) rfl ?_
  intro zp ze zs zm za zb zt zc z1 B hml hv
  obtain ⟨rfl, hP, hK⟩ := hv
  have hx := B.exec
  have hb := B.bytes
  have hr := B.returns
  have hts := atoms_spec (ws := wsX1_priceAmong) B.pre
  have hown : zs.vm.findClass RX1 = some zm.cls := findClass_of_methodNamed B.named
  have hlocks := B.notSynchronized
  have hl := lv_entry ([.ref (a 0), .int i, .int bits]) (n := 3) (Nat.le_of_ble_eq_true rfl)
  rw [lg_entry_eq]
  generalize (lg_sl ([.ref (a 0), .int i, .int bits]) ++ List.replicate (3 - (lg_sl ([.ref (a 0), .int i, .int bits])).length) Slot.unset).toArray = ls at hl ⊢
  replace hl : lv_has ls 3 [(0, .ref (a 0)), (1, .int i), (2, .int bits)] := hl
  show W zp l ze rm_X1_priceAmong zs zm ([.ref (a 0), .int i, .int bits] : List Value).toArray zb zt zc zs.heap [] 0 0 (MQ zb (rdI post) ([.ref (a 0), .int i, .int bits] : List Value).toArray zs 0 0 (fun _ => False)) (F0 zm 0 ls [])
  unfold wp_X1_priceAmong at h
  refine lv_aload_n hx hb dX1_priceAmong_0 rfl (lv_at hl 0 rfl) ?_
  refine lv_iload_n hx hb dX1_priceAmong_1 rfl (lv_at hl 1 rfl) ?_
  refine lv_aload_n hx hb dX1_priceAmong_2 rfl (lv_at hl 0 rfl) ?_
  refine lv_iload_n hx hb dX1_priceAmong_3 rfl (lv_at hl 1 rfl) ?_
  refine rd_calli (va_runV (As := [.int i]) (rest := [.int i, .ref (a 0)]) ⟨hx, hb, hml, hown, hts⟩ (c_X1_others l D ca a kinds whos toWhoms topics weights answered deeds size saidBits deedCount i _ h) (cwV 1 hts gX1_priceAmong_X1_others rfl rfl rfl (by decide +kernel) ⟨Nat.le_of_ble_eq_true rfl, Nat.le_of_ble_eq_true rfl⟩) (PcX.preV (q := (RX1, TX1, 10)) (ci := 1) (q0 := 0) hK hP rfl rfl hP) rfl rfl hl.1 rfl (lv_room (Nat.le_of_ble_eq_true rfl)) dX1_priceAmong_4 ⟨Nat.le_of_ble_eq_true rfl, Nat.le_of_ble_eq_true rfl⟩) (fun r1 h => ?_)
  try dsimp only at h
  refine lv_iload_n hx hb dX1_priceAmong_7 rfl (lv_at hl 2 rfl) ?_
  refine lv_iand hx hb dX1_priceAmong_8 ?_
  refine rd_calli (va_runS (As := [.int (r1 &&& bits)]) (rest := [.int i, .ref (a 0)]) ⟨hx, hb, hml, hown, hts⟩ (c_J6_bitCount_0f7a4 l D ca   (r1 &&& bits) _ h) (va_cwS 1 hts gX1_priceAmong_J6_bitCount_0f7a4 rfl rfl rfl (by decide +kernel) ⟨Nat.le_of_ble_eq_true rfl, Nat.le_of_ble_eq_true rfl⟩) (PcX.preS hK (fun k q h => by simp at h)) rfl rfl hl.1 rfl (lv_room (Nat.le_of_ble_eq_true rfl)) dX1_priceAmong_9 ⟨Nat.le_of_ble_eq_true rfl, Nat.le_of_ble_eq_true rfl⟩) (fun r2 h => ?_)
  try dsimp only at h
  refine rd_calli (va_runV (As := [.int i, .int r2]) (rest := []) ⟨hx, hb, hml, hown, hts⟩ (c_X1_priceAtHeat l D ca a kinds whos toWhoms topics weights answered deeds size saidBits deedCount i r2 _ h) (cwV 2 hts gX1_priceAmong_X1_priceAtHeat rfl rfl rfl (by decide +kernel) ⟨Nat.le_of_ble_eq_true rfl, Nat.le_of_ble_eq_true rfl⟩) (PcX.preV (q := (RX1, TX1, 10)) (ci := 1) (q0 := 0) hK hP rfl rfl hP) rfl rfl hl.1 rfl (lv_room (Nat.le_of_ble_eq_true rfl)) dX1_priceAmong_12 ⟨Nat.le_of_ble_eq_true rfl, Nat.le_of_ble_eq_true rfl⟩) (fun r3 h => ?_)
  try dsimp only at h
  exact W.iret (v := r3) hx hb hr (fun t ht hW => ⟨r3, rfl, h, ht⟩) (fun q hq => absurd hq List.not_mem_nil) dX1_priceAmong_15

-- IronedQuarrels$Heap.priceNow(I)I
def wp_X1_priceNow (kinds : Nat → Int32) (whos : Nat → Int32) (toWhoms : Nat → Int32) (topics : Nat → Int32) (weights : Nat → Int32) (size : Int32) (saidBits : Int32) (i : Int32) (post : Int32 → Prop) : Prop :=
  wp_X1_priceAmong kinds whos toWhoms topics weights size i saidBits (fun r1 => post r1)
def rm_X1_priceNow : Room := { frames := 4, cells := 0, slots := 0, locals := 87 }
theorem k_X1_priceNow_1 : Cond.fieldLink RX1 37 "IronedQuarrels$Heap" "saidBits" "I" ∈ wsX1_priceNow := List.mem_of_getElem? (i := 1) (by decide +kernel)
theorem hi_X1_priceNow_X1 : ∀ w ∈ wsX10, w ∈ wsX1_priceNow := fun w h => List.mem_cons_of_mem _ (List.mem_append_right _ h)
set_option maxHeartbeats 4000000 in
set_option maxRecDepth 100000 in
theorem c_X1_priceNow (l : Launch) (D : va_G) (ca : Nat → ClassId) (a : Nat → Nat) (kinds : Nat → Int32) (whos : Nat → Int32) (toWhoms : Nat → Int32) (topics : Nat → Int32) (weights : Nat → Int32) (answered : Nat → Int32) (deeds : Nat → Int32) (size : Int32) (saidBits : Int32) (deedCount : Int32) (i : Int32) (post : Int32 → Prop) (h : wp_X1_priceNow kinds whos toWhoms topics weights size saidBits i post) : Met l yX1_priceNow wsX1_priceNow rm_X1_priceNow (PcX D ca [.ref (a 0), .int i] (W_X1 ca a kinds whos toWhoms topics weights answered deeds size saidBits deedCount)) (rdI post) 0 0 (fun _ => False) := by
  refine Met.ofW (cc := cX1_priceNow) (maxL := 2) (ret := (some .int)) (by decide) rfl ?_
  intro zp ze zs zm za zb zt zc z1 B hml hv
  obtain ⟨rfl, hP, hK⟩ := hv
  have hx := B.exec
  have hb := B.bytes
  have hr := B.returns
  have hts := atoms_spec (ws := wsX1_priceNow) B.pre
  have hown : zs.vm.findClass RX1 = some zm.cls := findClass_of_methodNamed B.named
  have hlocks := B.notSynchronized
  have hl := lv_entry ([.ref (a 0), .int i]) (n := 2) (Nat.le_of_ble_eq_true rfl)
  rw [lg_entry_eq]
  generalize (lg_sl ([.ref (a 0), .int i]) ++ List.replicate (2 - (lg_sl ([.ref (a 0), .int i])).length) Slot.unset).toArray = ls at hl ⊢
  replace hl : lv_has ls 2 [(0, .ref (a 0)), (1, .int i)] := hl
  show W zp l ze rm_X1_priceNow zs zm ([.ref (a 0), .int i] : List Value).toArray zb zt zc zs.heap [] 0 0 (MQ zb (rdI post) ([.ref (a 0), .int i] : List Value).toArray zs 0 0 (fun _ => False)) (F0 zm 0 ls [])
  unfold wp_X1_priceNow at h
  refine lv_aload_n hx hb dX1_priceNow_0 rfl (lv_at hl 0 rfl) ?_
  refine lv_iload_n hx hb dX1_priceNow_1 rfl (lv_at hl 1 rfl) ?_
  refine lv_aload_n hx hb dX1_priceNow_2 rfl (lv_at hl 0 rfl) ?_
  refine va_get (D := D) (ci := 1) (v := .int saidBits) (C := RX1) (T := TX1) (N := 10) hx hb hts hi_X1_priceNow_X1 hown hK.1 hP 0 rfl rfl 8 (by decide) (hts _ k_X1_priceNow_1) (fun _ h9 => h9) rfl dX1_priceNow_3 ?_
  refine rd_calli (va_runV (As := [.int i, .int saidBits]) (rest := []) ⟨hx, hb, hml, hown, hts⟩ (c_X1_priceAmong l D ca a kinds whos toWhoms topics weights answered deeds size saidBits deedCount i saidBits _ h) (cwV 2 hts gX1_priceNow_X1_priceAmong rfl rfl rfl (by decide +kernel) ⟨Nat.le_of_ble_eq_true rfl, Nat.le_of_ble_eq_true rfl⟩) (PcX.preV (q := (RX1, TX1, 10)) (ci := 1) (q0 := 0) hK hP rfl rfl hP) rfl rfl hl.1 rfl (lv_room (Nat.le_of_ble_eq_true rfl)) dX1_priceNow_6 ⟨Nat.le_of_ble_eq_true rfl, Nat.le_of_ble_eq_true rfl⟩) (fun r1 h => ?_)
  try dsimp only at h
  exact W.iret (v := r1) hx hb hr (fun t ht hW => ⟨r1, rfl, h, ht⟩) (fun q hq => absurd hq List.not_mem_nil) dX1_priceNow_9

-- IronedQuarrels$Heap.fact(II)I
def wp_X1_fact (kinds : Nat → Int32) (whos : Nat → Int32) (toWhoms : Nat → Int32) (topics : Nat → Int32) (weights : Nat → Int32) (answered : Nat → Int32) (size : Int32) (saidBits : Int32) (i : Int32) (what : Int32) (post : Int32 → Prop) : Prop :=
  (what = 0 → (vp_in i 12 ∧ post (kinds i.toNatClampNeg))) ∧ (what = 1 → (vp_in i 12 ∧ post (whos i.toNatClampNeg))) ∧ (what = 2 → (vp_in i 12 ∧ post (toWhoms i.toNatClampNeg))) ∧ (what = 3 → (vp_in i 12 ∧ post (topics i.toNatClampNeg))) ∧ (what = 4 → (vp_in i 12 ∧ post (weights i.toNatClampNeg))) ∧ (what = 5 → (vp_in i 12 ∧ post (answered i.toNatClampNeg))) ∧ (what = 6 → (wp_X1_isSaid saidBits i (fun r1 => (r1 = 0 → (post (0 : Int32))) ∧ (¬ r1 = 0 → (post (1 : Int32)))))) ∧ (¬ what = 0 → ¬ what = 1 → ¬ what = 2 → ¬ what = 3 → ¬ what = 4 → ¬ what = 5 → ¬ what = 6 → (wp_X1_priceNow kinds whos toWhoms topics weights size saidBits i (fun r2 => post r2)))
def rm_X1_fact : Room := { frames := 5, cells := 0, slots := 0, locals := 108 }
theorem k_X1_fact_1 : Cond.fieldLink RX1 9 "IronedQuarrels$Heap" "kinds" "[I" ∈ wsX1_fact := List.mem_of_getElem? (i := 1) (by decide +kernel)
theorem k_X1_fact_2 : Cond.fieldLink RX1 15 "IronedQuarrels$Heap" "whos" "[I" ∈ wsX1_fact := List.mem_of_getElem? (i := 2) (by decide +kernel)
theorem k_X1_fact_3 : Cond.fieldLink RX1 18 "IronedQuarrels$Heap" "toWhoms" "[I" ∈ wsX1_fact := List.mem_of_getElem? (i := 3) (by decide +kernel)
theorem k_X1_fact_4 : Cond.fieldLink RX1 21 "IronedQuarrels$Heap" "topics" "[I" ∈ wsX1_fact := List.mem_of_getElem? (i := 4) (by decide +kernel)
theorem k_X1_fact_5 : Cond.fieldLink RX1 24 "IronedQuarrels$Heap" "weights" "[I" ∈ wsX1_fact := List.mem_of_getElem? (i := 5) (by decide +kernel)
theorem k_X1_fact_6 : Cond.fieldLink RX1 27 "IronedQuarrels$Heap" "answered" "[I" ∈ wsX1_fact := List.mem_of_getElem? (i := 6) (by decide +kernel)
theorem hi_X1_fact_X1 : ∀ w ∈ wsX10, w ∈ wsX1_fact := fun w h => List.mem_cons_of_mem _ (List.mem_append_right _ h)
set_option maxHeartbeats 4000000 in
set_option maxRecDepth 100000 in
theorem c_X1_fact (l : Launch) (D : va_G) (ca : Nat → ClassId) (a : Nat → Nat) (kinds : Nat → Int32) (whos : Nat → Int32) (toWhoms : Nat → Int32) (topics : Nat → Int32) (weights : Nat → Int32) (answered : Nat → Int32) (deeds : Nat → Int32) (size : Int32) (saidBits : Int32) (deedCount : Int32) (i : Int32) (what : Int32) (post : Int32 → Prop) (h : wp_X1_fact kinds whos toWhoms topics weights answered size saidBits i what post) : Met l yX1_fact wsX1_fact rm_X1_fact (PcX D ca [.ref (a 0), .int i, .int what] (W_X1 ca a kinds whos toWhoms topics weights answered deeds size saidBits deedCount)) (rdI post) 0 0 (fun _ => False) := by
  refine Met.ofW (cc := cX1_fact) (maxL := 3) (ret := (some .int)) (by decide) rfl ?_
  intro zp ze zs zm za zb zt zc z1 B hml hv
  obtain ⟨rfl, hP, hK⟩ := hv
  have hx := B.exec
  have hb := B.bytes
  have hr := B.returns
  have hts := atoms_spec (ws := wsX1_fact) B.pre
  have hown : zs.vm.findClass RX1 = some zm.cls := findClass_of_methodNamed B.named
  have hlocks := B.notSynchronized
  have hl := lv_entry ([.ref (a 0), .int i, .int what]) (n := 3) (Nat.le_of_ble_eq_true rfl)
  rw [lg_entry_eq]
  generalize (lg_sl ([.ref (a 0), .int i, .int what]) ++ List.replicate (3 - (lg_sl ([.ref (a 0), .int i, .int what])).length) Slot.unset).toArray = ls at hl ⊢
  replace hl : lv_has ls 3 [(0, .ref (a 0)), (1, .int i), (2, .int what)] := hl
  show W zp l ze rm_X1_fact zs zm ([.ref (a 0), .int i, .int what] : List Value).toArray zb zt zc zs.heap [] 0 0 (MQ zb (rdI post) ([.ref (a 0), .int i, .int what] : List Value).toArray zs 0 0 (fun _ => False)) (F0 zm 0 ls [])
  unfold wp_X1_fact at h
  refine lv_iload_n hx hb dX1_fact_0 rfl (lv_at hl 2 rfl) ?_
  by_cases hc0 : what = 0
  · have h := h.1 hc0
    refine lv_tableIn (tgt := 44) hx hb dX1_fact_1 (by rw [hc0]; decide) (by rw [hc0]; decide) (by rw [hc0]; rfl) (by decide) ?_
    refine lv_aload_n hx hb dX1_fact_44 rfl (lv_at hl 0 rfl) ?_
    refine va_get (D := D) (ci := 1) (v := .ref (a 1)) (C := RX1) (T := TX1) (N := 10) hx hb hts hi_X1_fact_X1 hown hK.1 hP 0 rfl rfl 0 (by decide) (hts _ k_X1_fact_1) (fun _ h9 => h9) rfl dX1_fact_45 ?_
    refine lv_iload_n hx hb dX1_fact_48 rfl (lv_at hl 1 rfl) ?_
    obtain ⟨hi, h⟩ := h
    refine x_iald (v := kinds i.toNatClampNeg) hx hb hK hP 1 rfl hi rfl dX1_fact_49 ?_
    exact W.iret (v := kinds i.toNatClampNeg) hx hb hr (fun t ht hW => ⟨kinds i.toNatClampNeg, rfl, h, ht⟩) (fun q hq => absurd hq List.not_mem_nil) dX1_fact_50
  · have h := h.2
    by_cases hc1 : what = 1
    · have h := h.1 hc1
      refine lv_tableIn (tgt := 51) hx hb dX1_fact_1 (by rw [hc1]; decide) (by rw [hc1]; decide) (by rw [hc1]; rfl) (by decide) ?_
      refine lv_aload_n hx hb dX1_fact_51 rfl (lv_at hl 0 rfl) ?_
      refine va_get (D := D) (ci := 1) (v := .ref (a 2)) (C := RX1) (T := TX1) (N := 10) hx hb hts hi_X1_fact_X1 hown hK.1 hP 0 rfl rfl 1 (by decide) (hts _ k_X1_fact_2) (fun _ h9 => h9) rfl dX1_fact_52 ?_
      refine lv_iload_n hx hb dX1_fact_55 rfl (lv_at hl 1 rfl) ?_
      obtain ⟨hi, h⟩ := h
      refine x_iald (v := whos i.toNatClampNeg) hx hb hK hP 2 rfl hi rfl dX1_fact_56 ?_
      exact W.iret (v := whos i.toNatClampNeg) hx hb hr (fun t ht hW => ⟨whos i.toNatClampNeg, rfl, h, ht⟩) (fun q hq => absurd hq List.not_mem_nil) dX1_fact_57
    · have h := h.2
      by_cases hc2 : what = 2
      · have h := h.1 hc2
        refine lv_tableIn (tgt := 58) hx hb dX1_fact_1 (by rw [hc2]; decide) (by rw [hc2]; decide) (by rw [hc2]; rfl) (by decide) ?_
        refine lv_aload_n hx hb dX1_fact_58 rfl (lv_at hl 0 rfl) ?_
        refine va_get (D := D) (ci := 1) (v := .ref (a 3)) (C := RX1) (T := TX1) (N := 10) hx hb hts hi_X1_fact_X1 hown hK.1 hP 0 rfl rfl 2 (by decide) (hts _ k_X1_fact_3) (fun _ h9 => h9) rfl dX1_fact_59 ?_
        refine lv_iload_n hx hb dX1_fact_62 rfl (lv_at hl 1 rfl) ?_
        obtain ⟨hi, h⟩ := h
        refine x_iald (v := toWhoms i.toNatClampNeg) hx hb hK hP 3 rfl hi rfl dX1_fact_63 ?_
        exact W.iret (v := toWhoms i.toNatClampNeg) hx hb hr (fun t ht hW => ⟨toWhoms i.toNatClampNeg, rfl, h, ht⟩) (fun q hq => absurd hq List.not_mem_nil) dX1_fact_64
      · have h := h.2
        by_cases hc3 : what = 3
        · have h := h.1 hc3
          refine lv_tableIn (tgt := 65) hx hb dX1_fact_1 (by rw [hc3]; decide) (by rw [hc3]; decide) (by rw [hc3]; rfl) (by decide) ?_
          refine lv_aload_n hx hb dX1_fact_65 rfl (lv_at hl 0 rfl) ?_
          refine va_get (D := D) (ci := 1) (v := .ref (a 4)) (C := RX1) (T := TX1) (N := 10) hx hb hts hi_X1_fact_X1 hown hK.1 hP 0 rfl rfl 3 (by decide) (hts _ k_X1_fact_4) (fun _ h9 => h9) rfl dX1_fact_66 ?_
          refine lv_iload_n hx hb dX1_fact_69 rfl (lv_at hl 1 rfl) ?_
          obtain ⟨hi, h⟩ := h
          refine x_iald (v := topics i.toNatClampNeg) hx hb hK hP 4 rfl hi rfl dX1_fact_70 ?_
          exact W.iret (v := topics i.toNatClampNeg) hx hb hr (fun t ht hW => ⟨topics i.toNatClampNeg, rfl, h, ht⟩) (fun q hq => absurd hq List.not_mem_nil) dX1_fact_71
        · have h := h.2
          by_cases hc4 : what = 4
          · have h := h.1 hc4
            refine lv_tableIn (tgt := 72) hx hb dX1_fact_1 (by rw [hc4]; decide) (by rw [hc4]; decide) (by rw [hc4]; rfl) (by decide) ?_
            refine lv_aload_n hx hb dX1_fact_72 rfl (lv_at hl 0 rfl) ?_
            refine va_get (D := D) (ci := 1) (v := .ref (a 5)) (C := RX1) (T := TX1) (N := 10) hx hb hts hi_X1_fact_X1 hown hK.1 hP 0 rfl rfl 4 (by decide) (hts _ k_X1_fact_5) (fun _ h9 => h9) rfl dX1_fact_73 ?_
            refine lv_iload_n hx hb dX1_fact_76 rfl (lv_at hl 1 rfl) ?_
            obtain ⟨hi, h⟩ := h
            refine x_iald (v := weights i.toNatClampNeg) hx hb hK hP 5 rfl hi rfl dX1_fact_77 ?_
            exact W.iret (v := weights i.toNatClampNeg) hx hb hr (fun t ht hW => ⟨weights i.toNatClampNeg, rfl, h, ht⟩) (fun q hq => absurd hq List.not_mem_nil) dX1_fact_78
          · have h := h.2
            by_cases hc5 : what = 5
            · have h := h.1 hc5
              refine lv_tableIn (tgt := 79) hx hb dX1_fact_1 (by rw [hc5]; decide) (by rw [hc5]; decide) (by rw [hc5]; rfl) (by decide) ?_
              refine lv_aload_n hx hb dX1_fact_79 rfl (lv_at hl 0 rfl) ?_
              refine va_get (D := D) (ci := 1) (v := .ref (a 6)) (C := RX1) (T := TX1) (N := 10) hx hb hts hi_X1_fact_X1 hown hK.1 hP 0 rfl rfl 5 (by decide) (hts _ k_X1_fact_6) (fun _ h9 => h9) rfl dX1_fact_80 ?_
              refine lv_iload_n hx hb dX1_fact_83 rfl (lv_at hl 1 rfl) ?_
              obtain ⟨hi, h⟩ := h
              refine x_iald (v := answered i.toNatClampNeg) hx hb hK hP 6 rfl hi rfl dX1_fact_84 ?_
              exact W.iret (v := answered i.toNatClampNeg) hx hb hr (fun t ht hW => ⟨answered i.toNatClampNeg, rfl, h, ht⟩) (fun q hq => absurd hq List.not_mem_nil) dX1_fact_85
            · have h := h.2
              by_cases hc6 : what = 6
              · have h := h.1 hc6
                refine lv_tableIn (tgt := 86) hx hb dX1_fact_1 (by rw [hc6]; decide) (by rw [hc6]; decide) (by rw [hc6]; rfl) (by decide) ?_
                refine lv_aload_n hx hb dX1_fact_86 rfl (lv_at hl 0 rfl) ?_
                refine lv_iload_n hx hb dX1_fact_87 rfl (lv_at hl 1 rfl) ?_
                refine rd_callz (va_runV (As := [.int i]) (rest := []) ⟨hx, hb, hml, hown, hts⟩ (c_X1_isSaid l D ca a kinds whos toWhoms topics weights answered deeds size saidBits deedCount i _ h) (cwV 1 hts gX1_fact_X1_isSaid rfl rfl rfl (by decide +kernel) ⟨Nat.le_of_ble_eq_true rfl, Nat.le_of_ble_eq_true rfl⟩) (PcX.preV (q := (RX1, TX1, 10)) (ci := 1) (q0 := 0) hK hP rfl rfl hP) rfl rfl hl.1 rfl (lv_room (Nat.le_of_ble_eq_true rfl)) dX1_fact_88 ⟨Nat.le_of_ble_eq_true rfl, Nat.le_of_ble_eq_true rfl⟩) (fun r1 h hz_r1 => ?_)
                try dsimp only at h
                refine lv_if_eq (tgt := 98) hx hb dX1_fact_91 (by decide) (fun hc => ?_) (fun hc => ?_)
                · have h := h.1 hc
                  refine lv_iconst (v := (0)) hx hb dX1_fact_98 (by decide) ?_
                  exact W.iret (v := (0 : Int32)) hx hb hr (fun t ht hW => ⟨(0 : Int32), rfl, h, ht⟩) (fun q hq => absurd hq List.not_mem_nil) dX1_fact_99
                · have h := h.2 hc
                  refine lv_iconst (v := (1)) hx hb dX1_fact_94 (by decide) ?_
                  refine lv_goto (tgt := 99) hx hb dX1_fact_95 (by decide) ?_
                  exact W.iret (v := (1 : Int32)) hx hb hr (fun t ht hW => ⟨(1 : Int32), rfl, h, ht⟩) (fun q hq => absurd hq List.not_mem_nil) dX1_fact_99
              · have h := h.2
                have h := h hc0 hc1 hc2 hc3 hc4 hc5 hc6
                have hsw : what.toInt < 0 ∨ 6 < what.toInt := x_swOutL 0 7 6 (by decide) (by decide) (by decide) (fun j hj => by rcases (show j = 0 ∨ j = 1 ∨ j = 2 ∨ j = 3 ∨ j = 4 ∨ j = 5 ∨ j = 6 by omega) with rfl | rfl | rfl | rfl | rfl | rfl | rfl <;> assumption)
                refine lv_tableOut (tgt := 100) hx hb dX1_fact_1 hsw (by decide) ?_
                refine lv_aload_n hx hb dX1_fact_100 rfl (lv_at hl 0 rfl) ?_
                refine lv_iload_n hx hb dX1_fact_101 rfl (lv_at hl 1 rfl) ?_
                refine rd_calli (va_runV (As := [.int i]) (rest := []) ⟨hx, hb, hml, hown, hts⟩ (c_X1_priceNow l D ca a kinds whos toWhoms topics weights answered deeds size saidBits deedCount i _ h) (cwV 1 hts gX1_fact_X1_priceNow rfl rfl rfl (by decide +kernel) ⟨Nat.le_of_ble_eq_true rfl, Nat.le_of_ble_eq_true rfl⟩) (PcX.preV (q := (RX1, TX1, 10)) (ci := 1) (q0 := 0) hK hP rfl rfl hP) rfl rfl hl.1 rfl (lv_room (Nat.le_of_ble_eq_true rfl)) dX1_fact_102 ⟨Nat.le_of_ble_eq_true rfl, Nat.le_of_ble_eq_true rfl⟩) (fun r2 h => ?_)
                try dsimp only at h
                exact W.iret (v := r2) hx hb hr (fun t ht hW => ⟨r2, rfl, h, ht⟩) (fun q hq => absurd hq List.not_mem_nil) dX1_fact_105

-- IronedQuarrels$Heap.isOf(II)Z
def wb_X1_isOf_22 (kind : Int32) (post : Int32 → Prop) (x3 : Int32) : Prop :=
  (¬ kind = (3 : Int32) → (post (0 : Int32))) ∧ (kind = (3 : Int32) → ((¬ x3 = (4 : Int32) → (post (0 : Int32))) ∧ (x3 = (4 : Int32) → (post (1 : Int32)))))
def wp_X1_isOf (kinds : Nat → Int32) (i : Int32) (kind : Int32) (post : Int32 → Prop) : Prop :=
  vp_in i 12 ∧ ((kinds i.toNatClampNeg) = kind → (post (1 : Int32))) ∧ (¬ (kinds i.toNatClampNeg) = kind → ((¬ kind = (1 : Int32) → (wb_X1_isOf_22 kind post (kinds i.toNatClampNeg))) ∧ (kind = (1 : Int32) → (((kinds i.toNatClampNeg) = (5 : Int32) → (post (1 : Int32))) ∧ (¬ (kinds i.toNatClampNeg) = (5 : Int32) → (wb_X1_isOf_22 kind post (kinds i.toNatClampNeg)))))))
def rm_X1_isOf : Room := { frames := 0, cells := 0, slots := 0, locals := 0 }
theorem k_X1_isOf_1 : Cond.fieldLink RX1 9 "IronedQuarrels$Heap" "kinds" "[I" ∈ wsX1_isOf := List.mem_of_getElem? (i := 1) (by decide +kernel)
theorem hi_X1_isOf_X1 : ∀ w ∈ wsX10, w ∈ wsX1_isOf := fun w h => List.mem_cons_of_mem _ (List.mem_append_right _ h)
set_option maxHeartbeats 4000000 in
set_option maxRecDepth 100000 in
theorem c_X1_isOf (l : Launch) (D : va_G) (ca : Nat → ClassId) (a : Nat → Nat) (kinds : Nat → Int32) (whos : Nat → Int32) (toWhoms : Nat → Int32) (topics : Nat → Int32) (weights : Nat → Int32) (answered : Nat → Int32) (deeds : Nat → Int32) (size : Int32) (saidBits : Int32) (deedCount : Int32) (i : Int32) (kind : Int32) (post : Int32 → Prop) (h : wp_X1_isOf kinds i kind post) : Met l yX1_isOf wsX1_isOf rm_X1_isOf (PcX D ca [.ref (a 0), .int i, .int kind] (W_X1 ca a kinds whos toWhoms topics weights answered deeds size saidBits deedCount)) (rdZ post) 0 0 (fun _ => False) := by
  refine Met.ofW (cc := cX1_isOf) (maxL := 4) (ret := (some .boolean)) (by decide) rfl ?_
  intro zp ze zs zm za zb zt zc z1 B hml hv
  obtain ⟨rfl, hP, hK⟩ := hv
  have hx := B.exec
  have hb := B.bytes
  have hr := B.returns
  have hts := atoms_spec (ws := wsX1_isOf) B.pre
  have hown : zs.vm.findClass RX1 = some zm.cls := findClass_of_methodNamed B.named
  have hlocks := B.notSynchronized
  have hl := lv_entry ([.ref (a 0), .int i, .int kind]) (n := 4) (Nat.le_of_ble_eq_true rfl)
  rw [lg_entry_eq]
  generalize (lg_sl ([.ref (a 0), .int i, .int kind]) ++ List.replicate (4 - (lg_sl ([.ref (a 0), .int i, .int kind])).length) Slot.unset).toArray = ls at hl ⊢
  replace hl : lv_has ls 4 [(0, .ref (a 0)), (1, .int i), (2, .int kind)] := hl
  show W zp l ze rm_X1_isOf zs zm ([.ref (a 0), .int i, .int kind] : List Value).toArray zb zt zc zs.heap [] 0 0 (MQ zb (rdZ post) ([.ref (a 0), .int i, .int kind] : List Value).toArray zs 0 0 (fun _ => False)) (F0 zm 0 ls [])
  have w_22 : ∀ (x3 : Int32), wb_X1_isOf_22 kind post x3 → ∀ ls : Array Slot, lv_has ls 4 [(2, .int kind), (3, .int x3)] → W zp l ze rm_X1_isOf zs zm ([.ref (a 0), .int i, .int kind] : List Value).toArray zb zt zc zs.heap [] 0 0 (MQ zb (rdZ post) ([.ref (a 0), .int i, .int kind] : List Value).toArray zs 0 0 (fun _ => False)) (F0 zm 22 ls []) := by
    intro x3 h ls hl
    unfold wb_X1_isOf_22 at h
    refine lv_iload_n hx hb dX1_isOf_22 rfl (lv_at hl 0 rfl) ?_
    refine lv_iconst (v := (3)) hx hb dX1_isOf_23 (by decide) ?_
    refine lv_icmp_ne (tgt := 36) hx hb dX1_isOf_24 (by decide) (fun hc => ?_) (fun hc => ?_)
    · have h := h.1 hc
      refine lv_iconst (v := (0)) hx hb dX1_isOf_36 (by decide) ?_
      exact W.zret (v := (0 : Int32)) hx hb hr nar0 (fun t ht hW => ⟨(0 : Int32), rfl, ⟨h, nar0⟩, ht⟩) (fun q hq => absurd hq List.not_mem_nil) dX1_isOf_37
    · have h := h.2 hc
      refine lv_iload_n hx hb dX1_isOf_27 rfl (lv_at hl 1 rfl) ?_
      refine lv_iconst (v := (4)) hx hb dX1_isOf_28 (by decide) ?_
      refine lv_icmp_ne (tgt := 36) hx hb dX1_isOf_29 (by decide) (fun hc => ?_) (fun hc => ?_)
      · have h := h.1 hc
        refine lv_iconst (v := (0)) hx hb dX1_isOf_36 (by decide) ?_
        exact W.zret (v := (0 : Int32)) hx hb hr nar0 (fun t ht hW => ⟨(0 : Int32), rfl, ⟨h, nar0⟩, ht⟩) (fun q hq => absurd hq List.not_mem_nil) dX1_isOf_37
      · have h := h.2 hc
        refine lv_iconst (v := (1)) hx hb dX1_isOf_32 (by decide) ?_
        refine lv_goto (tgt := 37) hx hb dX1_isOf_33 (by decide) ?_
        exact W.zret (v := (1 : Int32)) hx hb hr nar1 (fun t ht hW => ⟨(1 : Int32), rfl, ⟨h, nar1⟩, ht⟩) (fun q hq => absurd hq List.not_mem_nil) dX1_isOf_37
  unfold wp_X1_isOf at h
  refine lv_aload_n hx hb dX1_isOf_0 rfl (lv_at hl 0 rfl) ?_
  refine va_get (D := D) (ci := 1) (v := .ref (a 1)) (C := RX1) (T := TX1) (N := 10) hx hb hts hi_X1_isOf_X1 hown hK.1 hP 0 rfl rfl 0 (by decide) (hts _ k_X1_isOf_1) (fun _ h9 => h9) rfl dX1_isOf_1 ?_
  refine lv_iload_n hx hb dX1_isOf_4 rfl (lv_at hl 1 rfl) ?_
  obtain ⟨hi, h⟩ := h
  refine x_iald (v := kinds i.toNatClampNeg) hx hb hK hP 1 rfl hi rfl dX1_isOf_5 ?_
  refine lv_istore_n (lv' := [(3, .int (kinds i.toNatClampNeg)), (0, .ref (a 0)), (1, .int i), (2, .int kind)]) hx hb dX1_isOf_6 rfl hl (by decide) rfl (fun ls hl => ?_)
  refine lv_iload_n hx hb dX1_isOf_7 rfl (lv_at hl 0 rfl) ?_
  refine lv_iload_n hx hb dX1_isOf_8 rfl (lv_at hl 3 rfl) ?_
  refine lv_icmp_eq (tgt := 32) hx hb dX1_isOf_9 (by decide) (fun hc => ?_) (fun hc => ?_)
  · have h := h.1 hc
    refine lv_iconst (v := (1)) hx hb dX1_isOf_32 (by decide) ?_
    refine lv_goto (tgt := 37) hx hb dX1_isOf_33 (by decide) ?_
    exact W.zret (v := (1 : Int32)) hx hb hr nar1 (fun t ht hW => ⟨(1 : Int32), rfl, ⟨h, nar1⟩, ht⟩) (fun q hq => absurd hq List.not_mem_nil) dX1_isOf_37
  · have h := h.2 hc
    refine lv_iload_n hx hb dX1_isOf_12 rfl (lv_at hl 3 rfl) ?_
    refine lv_iconst (v := (1)) hx hb dX1_isOf_13 (by decide) ?_
    refine lv_icmp_ne (tgt := 22) hx hb dX1_isOf_14 (by decide) (fun hc => ?_) (fun hc => ?_)
    · have h := h.1 hc
      exact w_22  (kinds i.toNatClampNeg) h ls (lv_sub hl [3, 0] rfl)
    · have h := h.2 hc
      refine lv_iload_n hx hb dX1_isOf_17 rfl (lv_at hl 0 rfl) ?_
      refine lv_iconst (v := (5)) hx hb dX1_isOf_18 (by decide) ?_
      refine lv_icmp_eq (tgt := 32) hx hb dX1_isOf_19 (by decide) (fun hc => ?_) (fun hc => ?_)
      · have h := h.1 hc
        refine lv_iconst (v := (1)) hx hb dX1_isOf_32 (by decide) ?_
        refine lv_goto (tgt := 37) hx hb dX1_isOf_33 (by decide) ?_
        exact W.zret (v := (1 : Int32)) hx hb hr nar1 (fun t ht hW => ⟨(1 : Int32), rfl, ⟨h, nar1⟩, ht⟩) (fun q hq => absurd hq List.not_mem_nil) dX1_isOf_37
      · have h := h.2 hc
        exact w_22  (kinds i.toNatClampNeg) h ls (lv_sub hl [3, 0] rfl)

-- IronedQuarrels$Heap.answeredBy(I)I
def wp_X1_answeredBy (answered : Nat → Int32) (i : Int32) (post : Int32 → Prop) : Prop :=
  vp_in i 12 ∧ post (answered i.toNatClampNeg)
def rm_X1_answeredBy : Room := { frames := 0, cells := 0, slots := 0, locals := 0 }
theorem k_X1_answeredBy_1 : Cond.fieldLink RX1 27 "IronedQuarrels$Heap" "answered" "[I" ∈ wsX1_answeredBy := List.mem_of_getElem? (i := 1) (by decide +kernel)
theorem hi_X1_answeredBy_X1 : ∀ w ∈ wsX10, w ∈ wsX1_answeredBy := fun w h => List.mem_cons_of_mem _ (List.mem_append_right _ h)
set_option maxHeartbeats 4000000 in
set_option maxRecDepth 100000 in
theorem c_X1_answeredBy (l : Launch) (D : va_G) (ca : Nat → ClassId) (a : Nat → Nat) (kinds : Nat → Int32) (whos : Nat → Int32) (toWhoms : Nat → Int32) (topics : Nat → Int32) (weights : Nat → Int32) (answered : Nat → Int32) (deeds : Nat → Int32) (size : Int32) (saidBits : Int32) (deedCount : Int32) (i : Int32) (post : Int32 → Prop) (h : wp_X1_answeredBy answered i post) : Met l yX1_answeredBy wsX1_answeredBy rm_X1_answeredBy (PcX D ca [.ref (a 0), .int i] (W_X1 ca a kinds whos toWhoms topics weights answered deeds size saidBits deedCount)) (rdI post) 0 0 (fun _ => False) := by
  refine Met.ofW (cc := cX1_answeredBy) (maxL := 2) (ret := (some .int)) (by decide) rfl ?_
  intro zp ze zs zm za zb zt zc z1 B hml hv
  obtain ⟨rfl, hP, hK⟩ := hv
  have hx := B.exec
  have hb := B.bytes
  have hr := B.returns
  have hts := atoms_spec (ws := wsX1_answeredBy) B.pre
  have hown : zs.vm.findClass RX1 = some zm.cls := findClass_of_methodNamed B.named
  have hlocks := B.notSynchronized
  have hl := lv_entry ([.ref (a 0), .int i]) (n := 2) (Nat.le_of_ble_eq_true rfl)
  rw [lg_entry_eq]
  generalize (lg_sl ([.ref (a 0), .int i]) ++ List.replicate (2 - (lg_sl ([.ref (a 0), .int i])).length) Slot.unset).toArray = ls at hl ⊢
  replace hl : lv_has ls 2 [(0, .ref (a 0)), (1, .int i)] := hl
  show W zp l ze rm_X1_answeredBy zs zm ([.ref (a 0), .int i] : List Value).toArray zb zt zc zs.heap [] 0 0 (MQ zb (rdI post) ([.ref (a 0), .int i] : List Value).toArray zs 0 0 (fun _ => False)) (F0 zm 0 ls [])
  unfold wp_X1_answeredBy at h
  refine lv_aload_n hx hb dX1_answeredBy_0 rfl (lv_at hl 0 rfl) ?_
  refine va_get (D := D) (ci := 1) (v := .ref (a 6)) (C := RX1) (T := TX1) (N := 10) hx hb hts hi_X1_answeredBy_X1 hown hK.1 hP 0 rfl rfl 5 (by decide) (hts _ k_X1_answeredBy_1) (fun _ h9 => h9) rfl dX1_answeredBy_1 ?_
  refine lv_iload_n hx hb dX1_answeredBy_4 rfl (lv_at hl 1 rfl) ?_
  obtain ⟨hi, h⟩ := h
  refine x_iald (v := answered i.toNatClampNeg) hx hb hK hP 6 rfl hi rfl dX1_answeredBy_5 ?_
  exact W.iret (v := answered i.toNatClampNeg) hx hb hr (fun t ht hW => ⟨answered i.toNatClampNeg, rfl, h, ht⟩) (fun q hq => absurd hq List.not_mem_nil) dX1_answeredBy_6

-- IronedQuarrels$Heap.toWhomOf(I)I
def wp_X1_toWhomOf (toWhoms : Nat → Int32) (i : Int32) (post : Int32 → Prop) : Prop :=
  vp_in i 12 ∧ post (toWhoms i.toNatClampNeg)
def rm_X1_toWhomOf : Room := { frames := 0, cells := 0, slots := 0, locals := 0 }
theorem k_X1_toWhomOf_1 : Cond.fieldLink RX1 18 "IronedQuarrels$Heap" "toWhoms" "[I" ∈ wsX1_toWhomOf := List.mem_of_getElem? (i := 1) (by decide +kernel)
theorem hi_X1_toWhomOf_X1 : ∀ w ∈ wsX10, w ∈ wsX1_toWhomOf := fun w h => List.mem_cons_of_mem _ (List.mem_append_right _ h)
set_option maxHeartbeats 4000000 in
set_option maxRecDepth 100000 in
theorem c_X1_toWhomOf (l : Launch) (D : va_G) (ca : Nat → ClassId) (a : Nat → Nat) (kinds : Nat → Int32) (whos : Nat → Int32) (toWhoms : Nat → Int32) (topics : Nat → Int32) (weights : Nat → Int32) (answered : Nat → Int32) (deeds : Nat → Int32) (size : Int32) (saidBits : Int32) (deedCount : Int32) (i : Int32) (post : Int32 → Prop) (h : wp_X1_toWhomOf toWhoms i post) : Met l yX1_toWhomOf wsX1_toWhomOf rm_X1_toWhomOf (PcX D ca [.ref (a 0), .int i] (W_X1 ca a kinds whos toWhoms topics weights answered deeds size saidBits deedCount)) (rdI post) 0 0 (fun _ => False) := by
  refine Met.ofW (cc := cX1_toWhomOf) (maxL := 2) (ret := (some .int)) (by decide) rfl ?_
  intro zp ze zs zm za zb zt zc z1 B hml hv
  obtain ⟨rfl, hP, hK⟩ := hv
  have hx := B.exec
  have hb := B.bytes
  have hr := B.returns
  have hts := atoms_spec (ws := wsX1_toWhomOf) B.pre
  have hown : zs.vm.findClass RX1 = some zm.cls := findClass_of_methodNamed B.named
  have hlocks := B.notSynchronized
  have hl := lv_entry ([.ref (a 0), .int i]) (n := 2) (Nat.le_of_ble_eq_true rfl)
  rw [lg_entry_eq]
  generalize (lg_sl ([.ref (a 0), .int i]) ++ List.replicate (2 - (lg_sl ([.ref (a 0), .int i])).length) Slot.unset).toArray = ls at hl ⊢
  replace hl : lv_has ls 2 [(0, .ref (a 0)), (1, .int i)] := hl
  show W zp l ze rm_X1_toWhomOf zs zm ([.ref (a 0), .int i] : List Value).toArray zb zt zc zs.heap [] 0 0 (MQ zb (rdI post) ([.ref (a 0), .int i] : List Value).toArray zs 0 0 (fun _ => False)) (F0 zm 0 ls [])
  unfold wp_X1_toWhomOf at h
  refine lv_aload_n hx hb dX1_toWhomOf_0 rfl (lv_at hl 0 rfl) ?_
  refine va_get (D := D) (ci := 1) (v := .ref (a 3)) (C := RX1) (T := TX1) (N := 10) hx hb hts hi_X1_toWhomOf_X1 hown hK.1 hP 0 rfl rfl 2 (by decide) (hts _ k_X1_toWhomOf_1) (fun _ h9 => h9) rfl dX1_toWhomOf_1 ?_
  refine lv_iload_n hx hb dX1_toWhomOf_4 rfl (lv_at hl 1 rfl) ?_
  obtain ⟨hi, h⟩ := h
  refine x_iald (v := toWhoms i.toNatClampNeg) hx hb hK hP 3 rfl hi rfl dX1_toWhomOf_5 ?_
  exact W.iret (v := toWhoms i.toNatClampNeg) hx hb hr (fun t ht hW => ⟨toWhoms i.toNatClampNeg, rfl, h, ht⟩) (fun q hq => absurd hq List.not_mem_nil) dX1_toWhomOf_6

-- IronedQuarrels$Heap.toldAhead(I)I
def wb_X1_toldAhead_4 (toWhoms : Nat → Int32) (i : Int32) (post : Int32 → Prop) (K4 : (Int32) → (Int32) → Prop) (x2 : Int32) (x3 : Int32) : Prop :=
  (i ≤ x3 → (post x2)) ∧ (¬ i ≤ x3 → (vp_in x3 12 ∧ wp_X7_bit (toWhoms x3.toNatClampNeg) (fun r1 => K4 (x2 ||| r1) (x3 + 1))))
def wl_X1_toldAhead_4 (toWhoms : Nat → Int32) (i : Int32) (post : Int32 → Prop) : Nat → (Int32) → (Int32) → Prop
  | 0 => fun _ _ => False
  | zn + 1 => wb_X1_toldAhead_4 toWhoms i post (wl_X1_toldAhead_4 toWhoms i post zn)
def wp_X1_toldAhead (toWhoms : Nat → Int32) (i : Int32) (post : Int32 → Prop) : Prop :=
  ∃ zn, wl_X1_toldAhead_4 toWhoms i post zn (0 : Int32) (0 : Int32)
def rm_X1_toldAhead : Room := { frames := 1, cells := 0, slots := 0, locals := 20 }
theorem k_X1_toldAhead_1 : Cond.fieldLink RX1 18 "IronedQuarrels$Heap" "toWhoms" "[I" ∈ wsX1_toldAhead := List.mem_of_getElem? (i := 1) (by decide +kernel)
theorem k_X1_toldAhead_2 : Cond.static yX7_bit ∈ wsX1_toldAhead := List.mem_of_getElem? (i := 2) (by decide +kernel)
theorem k_X1_toldAhead_3 : Cond.initialized RX7 ∈ wsX1_toldAhead := List.mem_of_getElem? (i := 3) (by decide +kernel)
theorem hi_X1_toldAhead_X1 : ∀ w ∈ wsX10, w ∈ wsX1_toldAhead := fun w h => List.mem_cons_of_mem _ (List.mem_append_right _ h)
set_option maxHeartbeats 4000000 in
set_option maxRecDepth 100000 in
theorem c_X1_toldAhead (l : Launch) (D : va_G) (ca : Nat → ClassId) (a : Nat → Nat) (kinds : Nat → Int32) (whos : Nat → Int32) (toWhoms : Nat → Int32) (topics : Nat → Int32) (weights : Nat → Int32) (answered : Nat → Int32) (deeds : Nat → Int32) (size : Int32) (saidBits : Int32) (deedCount : Int32) (i : Int32) (post : Int32 → Prop) (h : wp_X1_toldAhead toWhoms i post) : Met l yX1_toldAhead wsX1_toldAhead rm_X1_toldAhead (PcX D ca [.ref (a 0), .int i] (W_X1 ca a kinds whos toWhoms topics weights answered deeds size saidBits deedCount)) (rdI post) 0 0 (fun _ => False) := by
  refine Met.ofW (cc := cX1_toldAhead) (maxL := 4) (ret := (some .int)) (by decide) rfl ?_
  intro zp ze zs zm za zb zt zc z1 B hml hv
  obtain ⟨rfl, hP, hK⟩ := hv
  have hx := B.exec
  have hb := B.bytes
  have hr := B.returns
  have hts := atoms_spec (ws := wsX1_toldAhead) B.pre
  have hown : zs.vm.findClass RX1 = some zm.cls := findClass_of_methodNamed B.named
  have hlocks := B.notSynchronized
  have hl := lv_entry ([.ref (a 0), .int i]) (n := 4) (Nat.le_of_ble_eq_true rfl)
  rw [lg_entry_eq]
  generalize (lg_sl ([.ref (a 0), .int i]) ++ List.replicate (4 - (lg_sl ([.ref (a 0), .int i])).length) Slot.unset).toArray = ls at hl ⊢
  replace hl : lv_has ls 4 [(0, .ref (a 0)), (1, .int i)] := hl
  show W zp l ze rm_X1_toldAhead zs zm ([.ref (a 0), .int i] : List Value).toArray zb zt zc zs.heap [] 0 0 (MQ zb (rdI post) ([.ref (a 0), .int i] : List Value).toArray zs 0 0 (fun _ => False)) (F0 zm 0 ls [])
  have w_4 : ∀ (zn : Nat) (x2 : Int32) (x3 : Int32), wl_X1_toldAhead_4 toWhoms i post zn x2 x3 → ∀ ls : Array Slot, lv_has ls 4 [(0, .ref (a 0)), (1, .int i), (2, .int x2), (3, .int x3)] → W zp l ze rm_X1_toldAhead zs zm ([.ref (a 0), .int i] : List Value).toArray zb zt zc zs.heap [] 0 0 (MQ zb (rdI post) ([.ref (a 0), .int i] : List Value).toArray zs 0 0 (fun _ => False)) (F0 zm 4 ls []) := by
    intro zn
    induction zn with
    | zero => intro x2 x3 h; exact h.elim
    | succ zn ih4 =>
      intro x2 x3 h ls hl
      replace h : wb_X1_toldAhead_4 toWhoms i post (wl_X1_toldAhead_4 toWhoms i post zn) x2 x3 := h
      unfold wb_X1_toldAhead_4 at h
      refine lv_iload_n hx hb dX1_toldAhead_4 rfl (lv_at hl 3 rfl) ?_
      refine lv_iload_n hx hb dX1_toldAhead_5 rfl (lv_at hl 1 rfl) ?_
      refine lv_icmp_ge (tgt := 27) hx hb dX1_toldAhead_6 (by decide) (fun hc => ?_) (fun hc => ?_)
      · have h := h.1 hc
        refine lv_iload_n hx hb dX1_toldAhead_27 rfl (lv_at hl 2 rfl) ?_
        exact W.iret (v := x2) hx hb hr (fun t ht hW => ⟨x2, rfl, h, ht⟩) (fun q hq => absurd hq List.not_mem_nil) dX1_toldAhead_28
      · have h := h.2 hc
        refine lv_iload_n hx hb dX1_toldAhead_9 rfl (lv_at hl 2 rfl) ?_
        refine lv_aload_n hx hb dX1_toldAhead_10 rfl (lv_at hl 0 rfl) ?_
        refine va_get (D := D) (ci := 1) (v := .ref (a 3)) (C := RX1) (T := TX1) (N := 10) hx hb hts hi_X1_toldAhead_X1 hown hK.1 hP 0 rfl rfl 2 (by decide) (hts _ k_X1_toldAhead_1) (fun _ h9 => h9) rfl dX1_toldAhead_11 ?_
        refine lv_iload_n hx hb dX1_toldAhead_14 rfl (lv_at hl 3 rfl) ?_
        obtain ⟨hi, h⟩ := h
        refine x_iald (v := toWhoms x3.toNatClampNeg) hx hb hK hP 3 rfl hi rfl dX1_toldAhead_15 ?_
        refine rd_calli (va_runSN (As := [.int (toWhoms x3.toNatClampNeg)]) (rest := [.int x2]) ⟨hx, hb, hml, hown, hts⟩ (c_X7_bit l D ca   (toWhoms x3.toNatClampNeg) _ h) ⟨va_cnB 1 hts gX1_toldAhead_X7_bit_n53 rfl rfl rfl (hK.2 (RX1, 53, yX7_bit, "IronedQuarrels") (List.mem_of_getElem? (i := 5) rfl)) (hts _ k_X1_toldAhead_3) (by decide +kernel) ⟨Nat.le_of_ble_eq_true rfl, Nat.le_of_ble_eq_true rfl⟩, hts _ k_X1_toldAhead_2, trivial⟩ (PcX.preS hK (fun k q h => by simp at h)) rfl rfl hl.1 rfl (lv_room (Nat.le_of_ble_eq_true rfl)) dX1_toldAhead_16 ⟨Nat.le_of_ble_eq_true rfl, Nat.le_of_ble_eq_true rfl⟩) (fun r1 h => ?_)
        try dsimp only at h
        refine lv_ior hx hb dX1_toldAhead_19 ?_
        refine lv_istore_n (lv' := [(2, .int (x2 ||| r1)), (0, .ref (a 0)), (1, .int i), (3, .int x3)]) hx hb dX1_toldAhead_20 rfl hl (by decide) rfl (fun ls hl => ?_)
        refine lv_iinc (v := x3 + 1) (lv' := [(3, .int (x3 + 1)), (2, .int (x2 ||| r1)), (0, .ref (a 0)), (1, .int i)]) hx hb dX1_toldAhead_21 hl (k := 3) rfl rfl (by decide) rfl (fun ls hl => ?_)
        refine lv_goto (tgt := 4) hx hb dX1_toldAhead_24 (by decide) ?_
        exact ih4 (x2 ||| r1) (x3 + 1) h ls (lv_sub hl [2, 3, 1, 0] rfl)
  unfold wp_X1_toldAhead at h
  refine lv_iconst (v := (0)) hx hb dX1_toldAhead_0 (by decide) ?_
  refine lv_istore_n (lv' := [(2, .int (0 : Int32)), (0, .ref (a 0)), (1, .int i)]) hx hb dX1_toldAhead_1 rfl hl (by decide) rfl (fun ls hl => ?_)
  refine lv_iconst (v := (0)) hx hb dX1_toldAhead_2 (by decide) ?_
  refine lv_istore_n (lv' := [(3, .int (0 : Int32)), (2, .int (0 : Int32)), (0, .ref (a 0)), (1, .int i)]) hx hb dX1_toldAhead_3 rfl hl (by decide) rfl (fun ls hl => ?_)
  obtain ⟨zn, h⟩ := h
  exact w_4  zn (0 : Int32) (0 : Int32) h ls (lv_sub hl [2, 3, 1, 0] rfl)

-- IronedQuarrels$Heap.whoOf(I)I
def wp_X1_whoOf (whos : Nat → Int32) (i : Int32) (post : Int32 → Prop) : Prop :=
  vp_in i 12 ∧ post (whos i.toNatClampNeg)
def rm_X1_whoOf : Room := { frames := 0, cells := 0, slots := 0, locals := 0 }
theorem k_X1_whoOf_1 : Cond.fieldLink RX1 15 "IronedQuarrels$Heap" "whos" "[I" ∈ wsX1_whoOf := List.mem_of_getElem? (i := 1) (by decide +kernel)
theorem hi_X1_whoOf_X1 : ∀ w ∈ wsX10, w ∈ wsX1_whoOf := fun w h => List.mem_cons_of_mem _ (List.mem_append_right _ h)
set_option maxHeartbeats 4000000 in
set_option maxRecDepth 100000 in
theorem c_X1_whoOf (l : Launch) (D : va_G) (ca : Nat → ClassId) (a : Nat → Nat) (kinds : Nat → Int32) (whos : Nat → Int32) (toWhoms : Nat → Int32) (topics : Nat → Int32) (weights : Nat → Int32) (answered : Nat → Int32) (deeds : Nat → Int32) (size : Int32) (saidBits : Int32) (deedCount : Int32) (i : Int32) (post : Int32 → Prop) (h : wp_X1_whoOf whos i post) : Met l yX1_whoOf wsX1_whoOf rm_X1_whoOf (PcX D ca [.ref (a 0), .int i] (W_X1 ca a kinds whos toWhoms topics weights answered deeds size saidBits deedCount)) (rdI post) 0 0 (fun _ => False) := by
  refine Met.ofW (cc := cX1_whoOf) (maxL := 2) (ret := (some .int)) (by decide) rfl ?_
  intro zp ze zs zm za zb zt zc z1 B hml hv
  obtain ⟨rfl, hP, hK⟩ := hv
  have hx := B.exec
  have hb := B.bytes
  have hr := B.returns
  have hts := atoms_spec (ws := wsX1_whoOf) B.pre
  have hown : zs.vm.findClass RX1 = some zm.cls := findClass_of_methodNamed B.named
  have hlocks := B.notSynchronized
  have hl := lv_entry ([.ref (a 0), .int i]) (n := 2) (Nat.le_of_ble_eq_true rfl)
  rw [lg_entry_eq]
  generalize (lg_sl ([.ref (a 0), .int i]) ++ List.replicate (2 - (lg_sl ([.ref (a 0), .int i])).length) Slot.unset).toArray = ls at hl ⊢
  replace hl : lv_has ls 2 [(0, .ref (a 0)), (1, .int i)] := hl
  show W zp l ze rm_X1_whoOf zs zm ([.ref (a 0), .int i] : List Value).toArray zb zt zc zs.heap [] 0 0 (MQ zb (rdI post) ([.ref (a 0), .int i] : List Value).toArray zs 0 0 (fun _ => False)) (F0 zm 0 ls [])
  unfold wp_X1_whoOf at h
  refine lv_aload_n hx hb dX1_whoOf_0 rfl (lv_at hl 0 rfl) ?_
  refine va_get (D := D) (ci := 1) (v := .ref (a 2)) (C := RX1) (T := TX1) (N := 10) hx hb hts hi_X1_whoOf_X1 hown hK.1 hP 0 rfl rfl 1 (by decide) (hts _ k_X1_whoOf_1) (fun _ h9 => h9) rfl dX1_whoOf_1 ?_
  refine lv_iload_n hx hb dX1_whoOf_4 rfl (lv_at hl 1 rfl) ?_
  obtain ⟨hi, h⟩ := h
  refine x_iald (v := whos i.toNatClampNeg) hx hb hK hP 2 rfl hi rfl dX1_whoOf_5 ?_
  exact W.iret (v := whos i.toNatClampNeg) hx hb hr (fun t ht hW => ⟨whos i.toNatClampNeg, rfl, h, ht⟩) (fun q hq => absurd hq List.not_mem_nil) dX1_whoOf_6

-- IronedQuarrels$Heap.heatNow(I)I
def wp_X1_heatNow (whos : Nat → Int32) (toWhoms : Nat → Int32) (size : Int32) (saidBits : Int32) (i : Int32) (post : Int32 → Prop) : Prop :=
  wp_X1_others whos toWhoms size i (fun r1 => wp_J6_bitCount_0f7a4 (r1 &&& saidBits) (fun r2 => post r2))
def rm_X1_heatNow : Room := { frames := 3, cells := 0, slots := 0, locals := 65 }
theorem k_X1_heatNow_1 : Cond.fieldLink RX1 37 "IronedQuarrels$Heap" "saidBits" "I" ∈ wsX1_heatNow := List.mem_of_getElem? (i := 1) (by decide +kernel)
theorem hi_X1_heatNow_X1 : ∀ w ∈ wsX10, w ∈ wsX1_heatNow := fun w h => List.mem_cons_of_mem _ (List.mem_append_right _ h)
set_option maxHeartbeats 4000000 in
set_option maxRecDepth 100000 in
theorem c_X1_heatNow (l : Launch) (D : va_G) (ca : Nat → ClassId) (a : Nat → Nat) (kinds : Nat → Int32) (whos : Nat → Int32) (toWhoms : Nat → Int32) (topics : Nat → Int32) (weights : Nat → Int32) (answered : Nat → Int32) (deeds : Nat → Int32) (size : Int32) (saidBits : Int32) (deedCount : Int32) (i : Int32) (post : Int32 → Prop) (h : wp_X1_heatNow whos toWhoms size saidBits i post) : Met l yX1_heatNow wsX1_heatNow rm_X1_heatNow (PcX D ca [.ref (a 0), .int i] (W_X1 ca a kinds whos toWhoms topics weights answered deeds size saidBits deedCount)) (rdI post) 0 0 (fun _ => False) := by
  refine Met.ofW (cc := cX1_heatNow) (maxL := 2) (ret := (some .int)) (by decide) rfl ?_
  intro zp ze zs zm za zb zt zc z1 B hml hv
  obtain ⟨rfl, hP, hK⟩ := hv
  have hx := B.exec
  have hb := B.bytes
  have hr := B.returns
  have hts := atoms_spec (ws := wsX1_heatNow) B.pre
  have hown : zs.vm.findClass RX1 = some zm.cls := findClass_of_methodNamed B.named
  have hlocks := B.notSynchronized
  have hl := lv_entry ([.ref (a 0), .int i]) (n := 2) (Nat.le_of_ble_eq_true rfl)
  rw [lg_entry_eq]
  generalize (lg_sl ([.ref (a 0), .int i]) ++ List.replicate (2 - (lg_sl ([.ref (a 0), .int i])).length) Slot.unset).toArray = ls at hl ⊢
  replace hl : lv_has ls 2 [(0, .ref (a 0)), (1, .int i)] := hl
  show W zp l ze rm_X1_heatNow zs zm ([.ref (a 0), .int i] : List Value).toArray zb zt zc zs.heap [] 0 0 (MQ zb (rdI post) ([.ref (a 0), .int i] : List Value).toArray zs 0 0 (fun _ => False)) (F0 zm 0 ls [])
  unfold wp_X1_heatNow at h
  refine lv_aload_n hx hb dX1_heatNow_0 rfl (lv_at hl 0 rfl) ?_
  refine lv_iload_n hx hb dX1_heatNow_1 rfl (lv_at hl 1 rfl) ?_
  refine rd_calli (va_runV (As := [.int i]) (rest := []) ⟨hx, hb, hml, hown, hts⟩ (c_X1_others l D ca a kinds whos toWhoms topics weights answered deeds size saidBits deedCount i _ h) (cwV 1 hts gX1_heatNow_X1_others rfl rfl rfl (by decide +kernel) ⟨Nat.le_of_ble_eq_true rfl, Nat.le_of_ble_eq_true rfl⟩) (PcX.preV (q := (RX1, TX1, 10)) (ci := 1) (q0 := 0) hK hP rfl rfl hP) rfl rfl hl.1 rfl (lv_room (Nat.le_of_ble_eq_true rfl)) dX1_heatNow_2 ⟨Nat.le_of_ble_eq_true rfl, Nat.le_of_ble_eq_true rfl⟩) (fun r1 h => ?_)
  try dsimp only at h
  refine lv_aload_n hx hb dX1_heatNow_5 rfl (lv_at hl 0 rfl) ?_
  refine va_get (D := D) (ci := 1) (v := .int saidBits) (C := RX1) (T := TX1) (N := 10) hx hb hts hi_X1_heatNow_X1 hown hK.1 hP 0 rfl rfl 8 (by decide) (hts _ k_X1_heatNow_1) (fun _ h9 => h9) rfl dX1_heatNow_6 ?_
  refine lv_iand hx hb dX1_heatNow_9 ?_
  refine rd_calli (va_runS (As := [.int (r1 &&& saidBits)]) (rest := []) ⟨hx, hb, hml, hown, hts⟩ (c_J6_bitCount_0f7a4 l D ca   (r1 &&& saidBits) _ h) (va_cwS 1 hts gX1_heatNow_J6_bitCount_0f7a4 rfl rfl rfl (by decide +kernel) ⟨Nat.le_of_ble_eq_true rfl, Nat.le_of_ble_eq_true rfl⟩) (PcX.preS hK (fun k q h => by simp at h)) rfl rfl hl.1 rfl (lv_room (Nat.le_of_ble_eq_true rfl)) dX1_heatNow_10 ⟨Nat.le_of_ble_eq_true rfl, Nat.le_of_ble_eq_true rfl⟩) (fun r2 h => ?_)
  try dsimp only at h
  exact W.iret (v := r2) hx hb hr (fun t ht hW => ⟨r2, rfl, h, ht⟩) (fun q hq => absurd hq List.not_mem_nil) dX1_heatNow_13

-- IronedQuarrels$Heap.weightOf(I)I
def wp_X1_weightOf (weights : Nat → Int32) (i : Int32) (post : Int32 → Prop) : Prop :=
  vp_in i 12 ∧ post (weights i.toNatClampNeg)
def rm_X1_weightOf : Room := { frames := 0, cells := 0, slots := 0, locals := 0 }
theorem k_X1_weightOf_1 : Cond.fieldLink RX1 24 "IronedQuarrels$Heap" "weights" "[I" ∈ wsX1_weightOf := List.mem_of_getElem? (i := 1) (by decide +kernel)
theorem hi_X1_weightOf_X1 : ∀ w ∈ wsX10, w ∈ wsX1_weightOf := fun w h => List.mem_cons_of_mem _ (List.mem_append_right _ h)
set_option maxHeartbeats 4000000 in
set_option maxRecDepth 100000 in
theorem c_X1_weightOf (l : Launch) (D : va_G) (ca : Nat → ClassId) (a : Nat → Nat) (kinds : Nat → Int32) (whos : Nat → Int32) (toWhoms : Nat → Int32) (topics : Nat → Int32) (weights : Nat → Int32) (answered : Nat → Int32) (deeds : Nat → Int32) (size : Int32) (saidBits : Int32) (deedCount : Int32) (i : Int32) (post : Int32 → Prop) (h : wp_X1_weightOf weights i post) : Met l yX1_weightOf wsX1_weightOf rm_X1_weightOf (PcX D ca [.ref (a 0), .int i] (W_X1 ca a kinds whos toWhoms topics weights answered deeds size saidBits deedCount)) (rdI post) 0 0 (fun _ => False) := by
  refine Met.ofW (cc := cX1_weightOf) (maxL := 2) (ret := (some .int)) (by decide) rfl ?_
  intro zp ze zs zm za zb zt zc z1 B hml hv
  obtain ⟨rfl, hP, hK⟩ := hv
  have hx := B.exec
  have hb := B.bytes
  have hr := B.returns
  have hts := atoms_spec (ws := wsX1_weightOf) B.pre
  have hown : zs.vm.findClass RX1 = some zm.cls := findClass_of_methodNamed B.named
  have hlocks := B.notSynchronized
  have hl := lv_entry ([.ref (a 0), .int i]) (n := 2) (Nat.le_of_ble_eq_true rfl)
  rw [lg_entry_eq]
  generalize (lg_sl ([.ref (a 0), .int i]) ++ List.replicate (2 - (lg_sl ([.ref (a 0), .int i])).length) Slot.unset).toArray = ls at hl ⊢
  replace hl : lv_has ls 2 [(0, .ref (a 0)), (1, .int i)] := hl
  show W zp l ze rm_X1_weightOf zs zm ([.ref (a 0), .int i] : List Value).toArray zb zt zc zs.heap [] 0 0 (MQ zb (rdI post) ([.ref (a 0), .int i] : List Value).toArray zs 0 0 (fun _ => False)) (F0 zm 0 ls [])
  unfold wp_X1_weightOf at h
  refine lv_aload_n hx hb dX1_weightOf_0 rfl (lv_at hl 0 rfl) ?_
  refine va_get (D := D) (ci := 1) (v := .ref (a 5)) (C := RX1) (T := TX1) (N := 10) hx hb hts hi_X1_weightOf_X1 hown hK.1 hP 0 rfl rfl 4 (by decide) (hts _ k_X1_weightOf_1) (fun _ h9 => h9) rfl dX1_weightOf_1 ?_
  refine lv_iload_n hx hb dX1_weightOf_4 rfl (lv_at hl 1 rfl) ?_
  obtain ⟨hi, h⟩ := h
  refine x_iald (v := weights i.toNatClampNeg) hx hb hK hP 5 rfl hi rfl dX1_weightOf_5 ?_
  exact W.iret (v := weights i.toNatClampNeg) hx hb hr (fun t ht hW => ⟨weights i.toNatClampNeg, rfl, h, ht⟩) (fun q hq => absurd hq List.not_mem_nil) dX1_weightOf_6

-- IronedQuarrels$Heap.answerers(I)I
def wb_X1_answerers_6 (answered : Nat → Int32) (size : Int32) (i : Int32) (post : Int32 → Prop) (K6 : (Int32) → (Int32) → Prop) (x2 : Int32) (x3 : Int32) : Prop :=
  (size ≤ x3 → (post x2)) ∧ (¬ size ≤ x3 → (vp_in x3 12 ∧ (¬ (answered x3.toNatClampNeg) = i → (K6 x2 (x3 + 1))) ∧ ((answered x3.toNatClampNeg) = i → (wp_X7_bit x3 (fun r1 => K6 (x2 ||| r1) (x3 + 1))))))
def wl_X1_answerers_6 (answered : Nat → Int32) (size : Int32) (i : Int32) (post : Int32 → Prop) : Nat → (Int32) → (Int32) → Prop
  | 0 => fun _ _ => False
  | zn + 1 => wb_X1_answerers_6 answered size i post (wl_X1_answerers_6 answered size i post zn)
def wp_X1_answerers (answered : Nat → Int32) (size : Int32) (i : Int32) (post : Int32 → Prop) : Prop :=
  ∃ zn, wl_X1_answerers_6 answered size i post zn (0 : Int32) (i + (1 : Int32))
def rm_X1_answerers : Room := { frames := 1, cells := 0, slots := 0, locals := 20 }
theorem k_X1_answerers_1 : Cond.fieldLink RX1 33 "IronedQuarrels$Heap" "size" "I" ∈ wsX1_answerers := List.mem_of_getElem? (i := 1) (by decide +kernel)
theorem k_X1_answerers_2 : Cond.fieldLink RX1 27 "IronedQuarrels$Heap" "answered" "[I" ∈ wsX1_answerers := List.mem_of_getElem? (i := 2) (by decide +kernel)
theorem k_X1_answerers_3 : Cond.static yX7_bit ∈ wsX1_answerers := List.mem_of_getElem? (i := 3) (by decide +kernel)
theorem k_X1_answerers_4 : Cond.initialized RX7 ∈ wsX1_answerers := List.mem_of_getElem? (i := 4) (by decide +kernel)
theorem hi_X1_answerers_X1 : ∀ w ∈ wsX10, w ∈ wsX1_answerers := fun w h => List.mem_cons_of_mem _ (List.mem_append_right _ h)
set_option maxHeartbeats 4000000 in
set_option maxRecDepth 100000 in
theorem c_X1_answerers (l : Launch) (D : va_G) (ca : Nat → ClassId) (a : Nat → Nat) (kinds : Nat → Int32) (whos : Nat → Int32) (toWhoms : Nat → Int32) (topics : Nat → Int32) (weights : Nat → Int32) (answered : Nat → Int32) (deeds : Nat → Int32) (size : Int32) (saidBits : Int32) (deedCount : Int32) (i : Int32) (post : Int32 → Prop) (h : wp_X1_answerers answered size i post) : Met l yX1_answerers wsX1_answerers rm_X1_answerers (PcX D ca [.ref (a 0), .int i] (W_X1 ca a kinds whos toWhoms topics weights answered deeds size saidBits deedCount)) (rdI post) 0 0 (fun _ => False) := by
  refine Met.ofW (cc := cX1_answerers) (maxL := 4) (ret := (some .int)) (by decide) rfl ?_
  intro zp ze zs zm za zb zt zc z1 B hml hv
  obtain ⟨rfl, hP, hK⟩ := hv
  have hx := B.exec
  have hb := B.bytes
  have hr := B.returns
  have hts := atoms_spec (ws := wsX1_answerers) B.pre
  have hown : zs.vm.findClass RX1 = some zm.cls := findClass_of_methodNamed B.named
  have hlocks := B.notSynchronized
  have hl := lv_entry ([.ref (a 0), .int i]) (n := 4) (Nat.le_of_ble_eq_true rfl)
  rw [lg_entry_eq]
  generalize (lg_sl ([.ref (a 0), .int i]) ++ List.replicate (4 - (lg_sl ([.ref (a 0), .int i])).length) Slot.unset).toArray = ls at hl ⊢
  replace hl : lv_has ls 4 [(0, .ref (a 0)), (1, .int i)] := hl
  show W zp l ze rm_X1_answerers zs zm ([.ref (a 0), .int i] : List Value).toArray zb zt zc zs.heap [] 0 0 (MQ zb (rdI post) ([.ref (a 0), .int i] : List Value).toArray zs 0 0 (fun _ => False)) (F0 zm 0 ls [])
  have w_6 : ∀ (zn : Nat) (x2 : Int32) (x3 : Int32), wl_X1_answerers_6 answered size i post zn x2 x3 → ∀ ls : Array Slot, lv_has ls 4 [(0, .ref (a 0)), (1, .int i), (2, .int x2), (3, .int x3)] → W zp l ze rm_X1_answerers zs zm ([.ref (a 0), .int i] : List Value).toArray zb zt zc zs.heap [] 0 0 (MQ zb (rdI post) ([.ref (a 0), .int i] : List Value).toArray zs 0 0 (fun _ => False)) (F0 zm 6 ls []) := by
    intro zn
    induction zn with
    | zero => intro x2 x3 h; exact h.elim
    | succ zn ih6 =>
      intro x2 x3 h ls hl
      replace h : wb_X1_answerers_6 answered size i post (wl_X1_answerers_6 answered size i post zn) x2 x3 := h
      unfold wb_X1_answerers_6 at h
      refine lv_iload_n hx hb dX1_answerers_6 rfl (lv_at hl 3 rfl) ?_
      refine lv_aload_n hx hb dX1_answerers_7 rfl (lv_at hl 0 rfl) ?_
      refine va_get (D := D) (ci := 1) (v := .int size) (C := RX1) (T := TX1) (N := 10) hx hb hts hi_X1_answerers_X1 hown hK.1 hP 0 rfl rfl 7 (by decide) (hts _ k_X1_answerers_1) (fun _ h9 => h9) rfl dX1_answerers_8 ?_
      refine lv_icmp_ge (tgt := 37) hx hb dX1_answerers_11 (by decide) (fun hc => ?_) (fun hc => ?_)
      · have h := h.1 hc
        refine lv_iload_n hx hb dX1_answerers_37 rfl (lv_at hl 2 rfl) ?_
        exact W.iret (v := x2) hx hb hr (fun t ht hW => ⟨x2, rfl, h, ht⟩) (fun q hq => absurd hq List.not_mem_nil) dX1_answerers_38
      · have h := h.2 hc
        refine lv_aload_n hx hb dX1_answerers_14 rfl (lv_at hl 0 rfl) ?_
        refine va_get (D := D) (ci := 1) (v := .ref (a 6)) (C := RX1) (T := TX1) (N := 10) hx hb hts hi_X1_answerers_X1 hown hK.1 hP 0 rfl rfl 5 (by decide) (hts _ k_X1_answerers_2) (fun _ h9 => h9) rfl dX1_answerers_15 ?_
        refine lv_iload_n hx hb dX1_answerers_18 rfl (lv_at hl 3 rfl) ?_
        obtain ⟨hi, h⟩ := h
        refine x_iald (v := answered x3.toNatClampNeg) hx hb hK hP 6 rfl hi rfl dX1_answerers_19 ?_
        refine lv_iload_n hx hb dX1_answerers_20 rfl (lv_at hl 1 rfl) ?_
        refine lv_icmp_ne (tgt := 31) hx hb dX1_answerers_21 (by decide) (fun hc => ?_) (fun hc => ?_)
        · have h := h.1 hc
          refine lv_iinc (v := x3 + 1) (lv' := [(3, .int (x3 + 1)), (0, .ref (a 0)), (1, .int i), (2, .int x2)]) hx hb dX1_answerers_31 hl (k := 3) rfl rfl (by decide) rfl (fun ls hl => ?_)
          refine lv_goto (tgt := 6) hx hb dX1_answerers_34 (by decide) ?_
          exact ih6 x2 (x3 + 1) h ls (lv_sub hl [1, 2, 3, 0] rfl)
        · have h := h.2 hc
          refine lv_iload_n hx hb dX1_answerers_24 rfl (lv_at hl 2 rfl) ?_
          refine lv_iload_n hx hb dX1_answerers_25 rfl (lv_at hl 3 rfl) ?_
          refine rd_calli (va_runSN (As := [.int x3]) (rest := [.int x2]) ⟨hx, hb, hml, hown, hts⟩ (c_X7_bit l D ca   x3 _ h) ⟨va_cnB 1 hts gX1_answerers_X7_bit_n53 rfl rfl rfl (hK.2 (RX1, 53, yX7_bit, "IronedQuarrels") (List.mem_of_getElem? (i := 5) rfl)) (hts _ k_X1_answerers_4) (by decide +kernel) ⟨Nat.le_of_ble_eq_true rfl, Nat.le_of_ble_eq_true rfl⟩, hts _ k_X1_answerers_3, trivial⟩ (PcX.preS hK (fun k q h => by simp at h)) rfl rfl hl.1 rfl (lv_room (Nat.le_of_ble_eq_true rfl)) dX1_answerers_26 ⟨Nat.le_of_ble_eq_true rfl, Nat.le_of_ble_eq_true rfl⟩) (fun r1 h => ?_)
          try dsimp only at h
          refine lv_ior hx hb dX1_answerers_29 ?_
          refine lv_istore_n (lv' := [(2, .int (x2 ||| r1)), (0, .ref (a 0)), (1, .int i), (3, .int x3)]) hx hb dX1_answerers_30 rfl hl (by decide) rfl (fun ls hl => ?_)
          refine lv_iinc (v := x3 + 1) (lv' := [(3, .int (x3 + 1)), (2, .int (x2 ||| r1)), (0, .ref (a 0)), (1, .int i)]) hx hb dX1_answerers_31 hl (k := 3) rfl rfl (by decide) rfl (fun ls hl => ?_)
          refine lv_goto (tgt := 6) hx hb dX1_answerers_34 (by decide) ?_
          exact ih6 (x2 ||| r1) (x3 + 1) h ls (lv_sub hl [2, 3, 1, 0] rfl)
  unfold wp_X1_answerers at h
  refine lv_iconst (v := (0)) hx hb dX1_answerers_0 (by decide) ?_
  refine lv_istore_n (lv' := [(2, .int (0 : Int32)), (0, .ref (a 0)), (1, .int i)]) hx hb dX1_answerers_1 rfl hl (by decide) rfl (fun ls hl => ?_)
  refine lv_iload_n hx hb dX1_answerers_2 rfl (lv_at hl 2 rfl) ?_
  refine lv_iconst (v := (1)) hx hb dX1_answerers_3 (by decide) ?_
  refine lv_iadd hx hb dX1_answerers_4 ?_
  refine lv_istore_n (lv' := [(3, .int (i + (1 : Int32))), (2, .int (0 : Int32)), (0, .ref (a 0)), (1, .int i)]) hx hb dX1_answerers_5 rfl hl (by decide) rfl (fun ls hl => ?_)
  obtain ⟨zn, h⟩ := h
  exact w_6  zn (0 : Int32) (i + (1 : Int32)) h ls (lv_sub hl [2, 3, 1, 0] rfl)

-- IronedQuarrels$Heap.saidBits()I
def wp_X1_saidBits (saidBits : Int32) (post : Int32 → Prop) : Prop :=
  post saidBits
def rm_X1_saidBits : Room := { frames := 0, cells := 0, slots := 0, locals := 0 }
theorem k_X1_saidBits_1 : Cond.fieldLink RX1 37 "IronedQuarrels$Heap" "saidBits" "I" ∈ wsX1_saidBits := List.mem_of_getElem? (i := 1) (by decide +kernel)
theorem hi_X1_saidBits_X1 : ∀ w ∈ wsX10, w ∈ wsX1_saidBits := fun w h => List.mem_cons_of_mem _ (List.mem_append_right _ h)
set_option maxHeartbeats 4000000 in
set_option maxRecDepth 100000 in
theorem c_X1_saidBits (l : Launch) (D : va_G) (ca : Nat → ClassId) (a : Nat → Nat) (kinds : Nat → Int32) (whos : Nat → Int32) (toWhoms : Nat → Int32) (topics : Nat → Int32) (weights : Nat → Int32) (answered : Nat → Int32) (deeds : Nat → Int32) (size : Int32) (saidBits : Int32) (deedCount : Int32)  (post : Int32 → Prop) (h : wp_X1_saidBits saidBits post) : Met l yX1_saidBits wsX1_saidBits rm_X1_saidBits (PcX D ca [.ref (a 0)] (W_X1 ca a kinds whos toWhoms topics weights answered deeds size saidBits deedCount)) (rdI post) 0 0 (fun _ => False) := by
  refine Met.ofW (cc := cX1_saidBits) (maxL := 1) (ret := (some .int)) (by decide) rfl ?_
  intro zp ze zs zm za zb zt zc z1 B hml hv
  obtain ⟨rfl, hP, hK⟩ := hv
  have hx := B.exec
  have hb := B.bytes
  have hr := B.returns
  have hts := atoms_spec (ws := wsX1_saidBits) B.pre
  have hown : zs.vm.findClass RX1 = some zm.cls := findClass_of_methodNamed B.named
  have hlocks := B.notSynchronized
  have hl := lv_entry ([.ref (a 0)]) (n := 1) (Nat.le_of_ble_eq_true rfl)
  rw [lg_entry_eq]
  generalize (lg_sl ([.ref (a 0)]) ++ List.replicate (1 - (lg_sl ([.ref (a 0)])).length) Slot.unset).toArray = ls at hl ⊢
  replace hl : lv_has ls 1 [(0, .ref (a 0))] := hl
  show W zp l ze rm_X1_saidBits zs zm ([.ref (a 0)] : List Value).toArray zb zt zc zs.heap [] 0 0 (MQ zb (rdI post) ([.ref (a 0)] : List Value).toArray zs 0 0 (fun _ => False)) (F0 zm 0 ls [])
  unfold wp_X1_saidBits at h
  refine lv_aload_n hx hb dX1_saidBits_0 rfl (lv_at hl 0 rfl) ?_
  refine va_get (D := D) (ci := 1) (v := .int saidBits) (C := RX1) (T := TX1) (N := 10) hx hb hts hi_X1_saidBits_X1 hown hK.1 hP 0 rfl rfl 8 (by decide) (hts _ k_X1_saidBits_1) (fun _ h9 => h9) rfl dX1_saidBits_1 ?_
  exact W.iret (v := saidBits) hx hb hr (fun t ht hW => ⟨saidBits, rfl, h, ht⟩) (fun q hq => absurd hq List.not_mem_nil) dX1_saidBits_4

-- IronedQuarrels$Heap.leanedOn(I)I
def wb_X1_leanedOn_12 (answered : Nat → Int32) (size : Int32) (post : Int32 → Prop) (K12 : (Int32) → (Int32) → (Int32) → Prop) (x2 : Int32) (x3 : Int32) (x4 : Int32) : Prop :=
  ((12 : Int32) ≤ x4 → (post x2)) ∧ (¬ (12 : Int32) ≤ x4 → (wp_X1_hasNumber size x3 (fun r1 => (r1 = 0 → (post x2)) ∧ (¬ r1 = 0 → (wp_X7_bit x3 (fun r2 => vp_in x3 12 ∧ K12 (x2 ||| r2) (answered x3.toNatClampNeg) (x4 + 1)))))))
def wl_X1_leanedOn_12 (answered : Nat → Int32) (size : Int32) (post : Int32 → Prop) : Nat → (Int32) → (Int32) → (Int32) → Prop
  | 0 => fun _ _ _ => False
  | zn + 1 => wb_X1_leanedOn_12 answered size post (wl_X1_leanedOn_12 answered size post zn)
def wp_X1_leanedOn (answered : Nat → Int32) (size : Int32) (i : Int32) (post : Int32 → Prop) : Prop :=
  vp_in i 12 ∧ ∃ zn, wl_X1_leanedOn_12 answered size post zn (0 : Int32) (answered i.toNatClampNeg) (0 : Int32)
def rm_X1_leanedOn : Room := { frames := 1, cells := 0, slots := 0, locals := 21 }
theorem k_X1_leanedOn_1 : Cond.fieldLink RX1 27 "IronedQuarrels$Heap" "answered" "[I" ∈ wsX1_leanedOn := List.mem_of_getElem? (i := 1) (by decide +kernel)
theorem k_X1_leanedOn_8 : Cond.static yX7_bit ∈ wsX1_leanedOn := List.mem_of_getElem? (i := 8) (by decide +kernel)
theorem k_X1_leanedOn_9 : Cond.initialized RX7 ∈ wsX1_leanedOn := List.mem_of_getElem? (i := 9) (by decide +kernel)
theorem hi_X1_leanedOn_X1 : ∀ w ∈ wsX10, w ∈ wsX1_leanedOn := fun w h => List.mem_cons_of_mem _ (List.mem_append_right _ h)
set_option maxHeartbeats 4000000 in
set_option maxRecDepth 100000 in
theorem c_X1_leanedOn (l : Launch) (D : va_G) (ca : Nat → ClassId) (a : Nat → Nat) (kinds : Nat → Int32) (whos : Nat → Int32) (toWhoms : Nat → Int32) (topics : Nat → Int32) (weights : Nat → Int32) (answered : Nat → Int32) (deeds : Nat → Int32) (size : Int32) (saidBits : Int32) (deedCount : Int32) (i : Int32) (post : Int32 → Prop) (h : wp_X1_leanedOn answered size i post) : Met l yX1_leanedOn wsX1_leanedOn rm_X1_leanedOn (PcX D ca [.ref (a 0), .int i] (W_X1 ca a kinds whos toWhoms topics weights answered deeds size saidBits deedCount)) (rdI post) 0 0 (fun _ => False) := by
  refine Met.ofW (cc := cX1_leanedOn) (maxL := 5) (ret := (some .int)) (by decide) rfl ?_
  intro zp ze zs zm za zb zt zc z1 B hml hv
  obtain ⟨rfl, hP, hK⟩ := hv
  have hx := B.exec
  have hb := B.bytes
  have hr := B.returns
  have hts := atoms_spec (ws := wsX1_leanedOn) B.pre
  have hown : zs.vm.findClass RX1 = some zm.cls := findClass_of_methodNamed B.named
  have hlocks := B.notSynchronized
  have hl := lv_entry ([.ref (a 0), .int i]) (n := 5) (Nat.le_of_ble_eq_true rfl)
  rw [lg_entry_eq]
  generalize (lg_sl ([.ref (a 0), .int i]) ++ List.replicate (5 - (lg_sl ([.ref (a 0), .int i])).length) Slot.unset).toArray = ls at hl ⊢
  replace hl : lv_has ls 5 [(0, .ref (a 0)), (1, .int i)] := hl
  show W zp l ze rm_X1_leanedOn zs zm ([.ref (a 0), .int i] : List Value).toArray zb zt zc zs.heap [] 0 0 (MQ zb (rdI post) ([.ref (a 0), .int i] : List Value).toArray zs 0 0 (fun _ => False)) (F0 zm 0 ls [])
  have w_12 : ∀ (zn : Nat) (x2 : Int32) (x3 : Int32) (x4 : Int32), wl_X1_leanedOn_12 answered size post zn x2 x3 x4 → ∀ ls : Array Slot, lv_has ls 5 [(0, .ref (a 0)), (2, .int x2), (3, .int x3), (4, .int x4)] → W zp l ze rm_X1_leanedOn zs zm ([.ref (a 0), .int i] : List Value).toArray zb zt zc zs.heap [] 0 0 (MQ zb (rdI post) ([.ref (a 0), .int i] : List Value).toArray zs 0 0 (fun _ => False)) (F0 zm 12 ls []) := by
    intro zn
    induction zn with
    | zero => intro x2 x3 x4 h; exact h.elim
    | succ zn ih12 =>
      intro x2 x3 x4 h ls hl
      replace h : wb_X1_leanedOn_12 answered size post (wl_X1_leanedOn_12 answered size post zn) x2 x3 x4 := h
      unfold wb_X1_leanedOn_12 at h
      refine lv_iload hx hb dX1_leanedOn_12 (lv_at hl 3 rfl) ?_
      refine lv_bipush (v := (12)) hx hb dX1_leanedOn_14 (by decide) ?_
      refine lv_icmp_ge (tgt := 47) hx hb dX1_leanedOn_16 (by decide) (fun hc => ?_) (fun hc => ?_)
      · have h := h.1 hc
        refine lv_iload_n hx hb dX1_leanedOn_47 rfl (lv_at hl 1 rfl) ?_
        exact W.iret (v := x2) hx hb hr (fun t ht hW => ⟨x2, rfl, h, ht⟩) (fun q hq => absurd hq List.not_mem_nil) dX1_leanedOn_48
      · have h := h.2 hc
        refine lv_aload_n hx hb dX1_leanedOn_19 rfl (lv_at hl 0 rfl) ?_
        refine lv_iload_n hx hb dX1_leanedOn_20 rfl (lv_at hl 2 rfl) ?_
        refine rd_callz (va_runV (As := [.int x3]) (rest := []) ⟨hx, hb, hml, hown, hts⟩ (c_X1_hasNumber l D ca a kinds whos toWhoms topics weights answered deeds size saidBits deedCount x3 _ h) (cwV 1 hts gX1_leanedOn_X1_hasNumber rfl rfl rfl (by decide +kernel) ⟨Nat.le_of_ble_eq_true rfl, Nat.le_of_ble_eq_true rfl⟩) (PcX.preV (q := (RX1, TX1, 10)) (ci := 1) (q0 := 0) hK hP rfl rfl hP) rfl rfl hl.1 rfl (lv_room (Nat.le_of_ble_eq_true rfl)) dX1_leanedOn_21 ⟨Nat.le_of_ble_eq_true rfl, Nat.le_of_ble_eq_true rfl⟩) (fun r1 h hz_r1 => ?_)
        try dsimp only at h
        refine lv_if_eq (tgt := 47) hx hb dX1_leanedOn_24 (by decide) (fun hc => ?_) (fun hc => ?_)
        · have h := h.1 hc
          refine lv_iload_n hx hb dX1_leanedOn_47 rfl (lv_at hl 1 rfl) ?_
          exact W.iret (v := x2) hx hb hr (fun t ht hW => ⟨x2, rfl, h, ht⟩) (fun q hq => absurd hq List.not_mem_nil) dX1_leanedOn_48
        · have h := h.2 hc
          refine lv_iload_n hx hb dX1_leanedOn_27 rfl (lv_at hl 1 rfl) ?_
          refine lv_iload_n hx hb dX1_leanedOn_28 rfl (lv_at hl 2 rfl) ?_
          refine rd_calli (va_runSN (As := [.int x3]) (rest := [.int x2]) ⟨hx, hb, hml, hown, hts⟩ (c_X7_bit l D ca   x3 _ h) ⟨va_cnB 1 hts gX1_leanedOn_X7_bit_n53 rfl rfl rfl (hK.2 (RX1, 53, yX7_bit, "IronedQuarrels") (List.mem_of_getElem? (i := 5) rfl)) (hts _ k_X1_leanedOn_9) (by decide +kernel) ⟨Nat.le_of_ble_eq_true rfl, Nat.le_of_ble_eq_true rfl⟩, hts _ k_X1_leanedOn_8, trivial⟩ (PcX.preS hK (fun k q h => by simp at h)) rfl rfl hl.1 rfl (lv_room (Nat.le_of_ble_eq_true rfl)) dX1_leanedOn_29 ⟨Nat.le_of_ble_eq_true rfl, Nat.le_of_ble_eq_true rfl⟩) (fun r2 h => ?_)
          try dsimp only at h
          refine lv_ior hx hb dX1_leanedOn_32 ?_
          refine lv_istore_n (lv' := [(2, .int (x2 ||| r2)), (0, .ref (a 0)), (3, .int x3), (4, .int x4)]) hx hb dX1_leanedOn_33 rfl hl (by decide) rfl (fun ls hl => ?_)
          refine lv_aload_n hx hb dX1_leanedOn_34 rfl (lv_at hl 1 rfl) ?_
          refine va_get (D := D) (ci := 1) (v := .ref (a 6)) (C := RX1) (T := TX1) (N := 10) hx hb hts hi_X1_leanedOn_X1 hown hK.1 hP 0 rfl rfl 5 (by decide) (hts _ k_X1_leanedOn_1) (fun _ h9 => h9) rfl dX1_leanedOn_35 ?_
          refine lv_iload_n hx hb dX1_leanedOn_38 rfl (lv_at hl 2 rfl) ?_
          obtain ⟨hi, h⟩ := h
          refine x_iald (v := answered x3.toNatClampNeg) hx hb hK hP 6 rfl hi rfl dX1_leanedOn_39 ?_
          refine lv_istore_n (lv' := [(3, .int (answered x3.toNatClampNeg)), (2, .int (x2 ||| r2)), (0, .ref (a 0)), (4, .int x4)]) hx hb dX1_leanedOn_40 rfl hl (by decide) rfl (fun ls hl => ?_)
          refine lv_iinc (v := x4 + 1) (lv' := [(4, .int (x4 + 1)), (3, .int (answered x3.toNatClampNeg)), (2, .int (x2 ||| r2)), (0, .ref (a 0))]) hx hb dX1_leanedOn_41 hl (k := 3) rfl rfl (by decide) rfl (fun ls hl => ?_)
          refine lv_goto (tgt := 12) hx hb dX1_leanedOn_44 (by decide) ?_
          exact ih12 (x2 ||| r2) (answered x3.toNatClampNeg) (x4 + 1) h ls (lv_sub hl [3, 2, 1, 0] rfl)
  unfold wp_X1_leanedOn at h
  refine lv_iconst (v := (0)) hx hb dX1_leanedOn_0 (by decide) ?_
  refine lv_istore_n (lv' := [(2, .int (0 : Int32)), (0, .ref (a 0)), (1, .int i)]) hx hb dX1_leanedOn_1 rfl hl (by decide) rfl (fun ls hl => ?_)
  refine lv_aload_n hx hb dX1_leanedOn_2 rfl (lv_at hl 1 rfl) ?_
  refine va_get (D := D) (ci := 1) (v := .ref (a 6)) (C := RX1) (T := TX1) (N := 10) hx hb hts hi_X1_leanedOn_X1 hown hK.1 hP 0 rfl rfl 5 (by decide) (hts _ k_X1_leanedOn_1) (fun _ h9 => h9) rfl dX1_leanedOn_3 ?_
  refine lv_iload_n hx hb dX1_leanedOn_6 rfl (lv_at hl 2 rfl) ?_
  obtain ⟨hi, h⟩ := h
  refine x_iald (v := answered i.toNatClampNeg) hx hb hK hP 6 rfl hi rfl dX1_leanedOn_7 ?_
  refine lv_istore_n (lv' := [(3, .int (answered i.toNatClampNeg)), (2, .int (0 : Int32)), (0, .ref (a 0)), (1, .int i)]) hx hb dX1_leanedOn_8 rfl hl (by decide) rfl (fun ls hl => ?_)
  refine lv_iconst (v := (0)) hx hb dX1_leanedOn_9 (by decide) ?_
  refine lv_istore (lv' := [(4, .int (0 : Int32)), (3, .int (answered i.toNatClampNeg)), (2, .int (0 : Int32)), (0, .ref (a 0)), (1, .int i)]) hx hb dX1_leanedOn_10 hl (by decide) rfl (fun ls hl => ?_)
  obtain ⟨zn, h⟩ := h
  exact w_12  zn (0 : Int32) (answered i.toNatClampNeg) (0 : Int32) h ls (lv_sub hl [3, 2, 1, 0] rfl)

-- IronedQuarrels$Heap.beginningOf(I)I
def wp_X1_beginningOf (answered : Nat → Int32) (size : Int32) (i : Int32) (post : Int32 → Prop) : Prop :=
  wp_X1_leanedOn answered size i (fun r1 => (¬ r1 = 0 → (wp_X7_numberAt r1 (0 : Int32) (fun r2 => post r2))) ∧ (r1 = 0 → (post i)))
def rm_X1_beginningOf : Room := { frames := 2, cells := 0, slots := 0, locals := 45 }
theorem k_X1_beginningOf_13 : Cond.initialized RX7 ∈ wsX1_beginningOf := List.mem_of_getElem? (i := 13) (by decide +kernel)
theorem k_X1_beginningOf_15 : Cond.static yX7_numberAt ∈ wsX1_beginningOf := List.mem_of_getElem? (i := 15) (by decide +kernel)
theorem hi_X1_beginningOf_X1 : ∀ w ∈ wsX10, w ∈ wsX1_beginningOf := fun w h => List.mem_cons_of_mem _ (List.mem_append_right _ h)
set_option maxHeartbeats 4000000 in
set_option maxRecDepth 100000 in
theorem c_X1_beginningOf (l : Launch) (D : va_G) (ca : Nat → ClassId) (a : Nat → Nat) (kinds : Nat → Int32) (whos : Nat → Int32) (toWhoms : Nat → Int32) (topics : Nat → Int32) (weights : Nat → Int32) (answered : Nat → Int32) (deeds : Nat → Int32) (size : Int32) (saidBits : Int32) (deedCount : Int32) (i : Int32) (post : Int32 → Prop) (h : wp_X1_beginningOf answered size i post) : Met l yX1_beginningOf wsX1_beginningOf rm_X1_beginningOf (PcX D ca [.ref (a 0), .int i] (W_X1 ca a kinds whos toWhoms topics weights answered deeds size saidBits deedCount)) (rdI post) 0 0 (fun _ => False) := by
  refine Met.ofW (cc := cX1_beginningOf) (maxL := 3) (ret := (some .int)) (by decide) rfl ?_
  intro zp ze zs zm za zb zt zc z1 B hml hv
  obtain ⟨rfl, hP, hK⟩ := hv
  have hx := B.exec
  have hb := B.bytes
  have hr := B.returns
  have hts := atoms_spec (ws := wsX1_beginningOf) B.pre
  have hown : zs.vm.findClass RX1 = some zm.cls := findClass_of_methodNamed B.named
  have hlocks := B.notSynchronized
  have hl := lv_entry ([.ref (a 0), .int i]) (n := 3) (Nat.le_of_ble_eq_true rfl)
  rw [lg_entry_eq]
  generalize (lg_sl ([.ref (a 0), .int i]) ++ List.replicate (3 - (lg_sl ([.ref (a 0), .int i])).length) Slot.unset).toArray = ls at hl ⊢
  replace hl : lv_has ls 3 [(0, .ref (a 0)), (1, .int i)] := hl
  show W zp l ze rm_X1_beginningOf zs zm ([.ref (a 0), .int i] : List Value).toArray zb zt zc zs.heap [] 0 0 (MQ zb (rdI post) ([.ref (a 0), .int i] : List Value).toArray zs 0 0 (fun _ => False)) (F0 zm 0 ls [])
  unfold wp_X1_beginningOf at h
  refine lv_aload_n hx hb dX1_beginningOf_0 rfl (lv_at hl 0 rfl) ?_
  refine lv_iload_n hx hb dX1_beginningOf_1 rfl (lv_at hl 1 rfl) ?_
  refine rd_calli (va_runV (As := [.int i]) (rest := []) ⟨hx, hb, hml, hown, hts⟩ (c_X1_leanedOn l D ca a kinds whos toWhoms topics weights answered deeds size saidBits deedCount i _ h) (cwV 1 hts gX1_beginningOf_X1_leanedOn rfl rfl rfl (by decide +kernel) ⟨Nat.le_of_ble_eq_true rfl, Nat.le_of_ble_eq_true rfl⟩) (PcX.preV (q := (RX1, TX1, 10)) (ci := 1) (q0 := 0) hK hP rfl rfl hP) rfl rfl hl.1 rfl (lv_room (Nat.le_of_ble_eq_true rfl)) dX1_beginningOf_2 ⟨Nat.le_of_ble_eq_true rfl, Nat.le_of_ble_eq_true rfl⟩) (fun r1 h => ?_)
  try dsimp only at h
  refine lv_istore_n (lv' := [(2, .int r1), (0, .ref (a 0)), (1, .int i)]) hx hb dX1_beginningOf_5 rfl hl (by decide) rfl (fun ls hl => ?_)
  refine lv_iload_n hx hb dX1_beginningOf_6 rfl (lv_at hl 0 rfl) ?_
  refine lv_if_ne (tgt := 14) hx hb dX1_beginningOf_7 (by decide) (fun hc => ?_) (fun hc => ?_)
  · have h := h.1 hc
    refine lv_iload_n hx hb dX1_beginningOf_14 rfl (lv_at hl 0 rfl) ?_
    refine lv_iconst (v := (0)) hx hb dX1_beginningOf_15 (by decide) ?_
    refine rd_calli (va_runSN (As := [.int r1, .int (0 : Int32)]) (rest := []) ⟨hx, hb, hml, hown, hts⟩ (c_X7_numberAt l D ca   r1 (0 : Int32) _ h) ⟨va_cnB 2 hts gX1_beginningOf_X7_numberAt_n111 rfl rfl rfl (hK.2 (RX1, 111, yX7_numberAt, "IronedQuarrels") (List.mem_of_getElem? (i := 8) rfl)) (hts _ k_X1_beginningOf_13) (by decide +kernel) ⟨Nat.le_of_ble_eq_true rfl, Nat.le_of_ble_eq_true rfl⟩, hts _ k_X1_beginningOf_15, trivial⟩ (PcX.preS hK (fun k q h => by simp at h)) rfl rfl hl.1 rfl (lv_room (Nat.le_of_ble_eq_true rfl)) dX1_beginningOf_16 ⟨Nat.le_of_ble_eq_true rfl, Nat.le_of_ble_eq_true rfl⟩) (fun r2 h => ?_)
    try dsimp only at h
    exact W.iret (v := r2) hx hb hr (fun t ht hW => ⟨r2, rfl, h, ht⟩) (fun q hq => absurd hq List.not_mem_nil) dX1_beginningOf_19
  · have h := h.2 hc
    refine lv_iload_n hx hb dX1_beginningOf_10 rfl (lv_at hl 2 rfl) ?_
    refine lv_goto (tgt := 19) hx hb dX1_beginningOf_11 (by decide) ?_
    exact W.iret (v := i) hx hb hr (fun t ht hW => ⟨i, rfl, h, ht⟩) (fun q hq => absurd hq List.not_mem_nil) dX1_beginningOf_19

-- IronedQuarrels$Heap.alikeInBundle(I)I
def wb_X1_alikeInBundle_11 (topics : Nat → Int32) (answered : Nat → Int32) (size : Int32) (i : Int32) (post : Int32 → Prop) (K11 : (Int32) → (Int32) → (Int32) → Prop) (x2 : Int32) (x3 : Int32) (x4 : Int32) : Prop :=
  (size ≤ x4 → (post x3)) ∧ (¬ size ≤ x4 → (wp_X1_beginningOf answered size x4 (fun r2 => (¬ r2 = x2 → (K11 x2 x3 (x4 + 1))) ∧ (r2 = x2 → (vp_in x4 12 ∧ vp_in i 12 ∧ (¬ (topics x4.toNatClampNeg) = (topics i.toNatClampNeg) → (K11 x2 x3 (x4 + 1))) ∧ ((topics x4.toNatClampNeg) = (topics i.toNatClampNeg) → (K11 x2 (x3 + 1) (x4 + 1))))))))
def wl_X1_alikeInBundle_11 (topics : Nat → Int32) (answered : Nat → Int32) (size : Int32) (i : Int32) (post : Int32 → Prop) : Nat → (Int32) → (Int32) → (Int32) → Prop
  | 0 => fun _ _ _ => False
  | zn + 1 => wb_X1_alikeInBundle_11 topics answered size i post (wl_X1_alikeInBundle_11 topics answered size i post zn)
def wp_X1_alikeInBundle (topics : Nat → Int32) (answered : Nat → Int32) (size : Int32) (i : Int32) (post : Int32 → Prop) : Prop :=
  wp_X1_beginningOf answered size i (fun r1 => ∃ zn, wl_X1_alikeInBundle_11 topics answered size i post zn r1 (0 : Int32) (0 : Int32))
def rm_X1_alikeInBundle : Room := { frames := 3, cells := 0, slots := 0, locals := 67 }
theorem k_X1_alikeInBundle_1 : Cond.fieldLink RX1 33 "IronedQuarrels$Heap" "size" "I" ∈ wsX1_alikeInBundle := List.mem_of_getElem? (i := 1) (by decide +kernel)
theorem k_X1_alikeInBundle_2 : Cond.fieldLink RX1 21 "IronedQuarrels$Heap" "topics" "[I" ∈ wsX1_alikeInBundle := List.mem_of_getElem? (i := 2) (by decide +kernel)
theorem hi_X1_alikeInBundle_X1 : ∀ w ∈ wsX10, w ∈ wsX1_alikeInBundle := fun w h => List.mem_cons_of_mem _ (List.mem_append_right _ h)
set_option maxHeartbeats 4000000 in
set_option maxRecDepth 100000 in
theorem c_X1_alikeInBundle (l : Launch) (D : va_G) (ca : Nat → ClassId) (a : Nat → Nat) (kinds : Nat → Int32) (whos : Nat → Int32) (toWhoms : Nat → Int32) (topics : Nat → Int32) (weights : Nat → Int32) (answered : Nat → Int32) (deeds : Nat → Int32) (size : Int32) (saidBits : Int32) (deedCount : Int32) (i : Int32) (post : Int32 → Prop) (h : wp_X1_alikeInBundle topics answered size i post) : Met l yX1_alikeInBundle wsX1_alikeInBundle rm_X1_alikeInBundle (PcX D ca [.ref (a 0), .int i] (W_X1 ca a kinds whos toWhoms topics weights answered deeds size saidBits deedCount)) (rdI post) 0 0 (fun _ => False) := by
  refine Met.ofW (cc := cX1_alikeInBundle) (maxL := 5) (ret := (some .int)) (by decide) rfl ?_
  intro zp ze zs zm za zb zt zc z1 B hml hv
  obtain ⟨rfl, hP, hK⟩ := hv
  have hx := B.exec
  have hb := B.bytes
  have hr := B.returns
  have hts := atoms_spec (ws := wsX1_alikeInBundle) B.pre
  have hown : zs.vm.findClass RX1 = some zm.cls := findClass_of_methodNamed B.named
  have hlocks := B.notSynchronized
  have hl := lv_entry ([.ref (a 0), .int i]) (n := 5) (Nat.le_of_ble_eq_true rfl)
  rw [lg_entry_eq]
  generalize (lg_sl ([.ref (a 0), .int i]) ++ List.replicate (5 - (lg_sl ([.ref (a 0), .int i])).length) Slot.unset).toArray = ls at hl ⊢
  replace hl : lv_has ls 5 [(0, .ref (a 0)), (1, .int i)] := hl
  show W zp l ze rm_X1_alikeInBundle zs zm ([.ref (a 0), .int i] : List Value).toArray zb zt zc zs.heap [] 0 0 (MQ zb (rdI post) ([.ref (a 0), .int i] : List Value).toArray zs 0 0 (fun _ => False)) (F0 zm 0 ls [])
  have w_11 : ∀ (zn : Nat) (x2 : Int32) (x3 : Int32) (x4 : Int32), wl_X1_alikeInBundle_11 topics answered size i post zn x2 x3 x4 → ∀ ls : Array Slot, lv_has ls 5 [(0, .ref (a 0)), (1, .int i), (2, .int x2), (3, .int x3), (4, .int x4)] → W zp l ze rm_X1_alikeInBundle zs zm ([.ref (a 0), .int i] : List Value).toArray zb zt zc zs.heap [] 0 0 (MQ zb (rdI post) ([.ref (a 0), .int i] : List Value).toArray zs 0 0 (fun _ => False)) (F0 zm 11 ls []) := by
    intro zn
    induction zn with
    | zero => intro x2 x3 x4 h; exact h.elim
    | succ zn ih11 =>
      intro x2 x3 x4 h ls hl
      replace h : wb_X1_alikeInBundle_11 topics answered size i post (wl_X1_alikeInBundle_11 topics answered size i post zn) x2 x3 x4 := h
      unfold wb_X1_alikeInBundle_11 at h
      refine lv_iload hx hb dX1_alikeInBundle_11 (lv_at hl 4 rfl) ?_
      refine lv_aload_n hx hb dX1_alikeInBundle_13 rfl (lv_at hl 0 rfl) ?_
      refine va_get (D := D) (ci := 1) (v := .int size) (C := RX1) (T := TX1) (N := 10) hx hb hts hi_X1_alikeInBundle_X1 hown hK.1 hP 0 rfl rfl 7 (by decide) (hts _ k_X1_alikeInBundle_1) (fun _ h9 => h9) rfl dX1_alikeInBundle_14 ?_
      refine lv_icmp_ge (tgt := 55) hx hb dX1_alikeInBundle_17 (by decide) (fun hc => ?_) (fun hc => ?_)
      · have h := h.1 hc
        refine lv_iload_n hx hb dX1_alikeInBundle_55 rfl (lv_at hl 3 rfl) ?_
        exact W.iret (v := x3) hx hb hr (fun t ht hW => ⟨x3, rfl, h, ht⟩) (fun q hq => absurd hq List.not_mem_nil) dX1_alikeInBundle_56
      · have h := h.2 hc
        refine lv_aload_n hx hb dX1_alikeInBundle_20 rfl (lv_at hl 0 rfl) ?_
        refine lv_iload hx hb dX1_alikeInBundle_21 (lv_at hl 4 rfl) ?_
        refine rd_calli (va_runV (As := [.int x4]) (rest := []) ⟨hx, hb, hml, hown, hts⟩ (c_X1_beginningOf l D ca a kinds whos toWhoms topics weights answered deeds size saidBits deedCount x4 _ h) (cwV 1 hts gX1_alikeInBundle_X1_beginningOf rfl rfl rfl (by decide +kernel) ⟨Nat.le_of_ble_eq_true rfl, Nat.le_of_ble_eq_true rfl⟩) (PcX.preV (q := (RX1, TX1, 10)) (ci := 1) (q0 := 0) hK hP rfl rfl hP) rfl rfl hl.1 rfl (lv_room (Nat.le_of_ble_eq_true rfl)) dX1_alikeInBundle_23 ⟨Nat.le_of_ble_eq_true rfl, Nat.le_of_ble_eq_true rfl⟩) (fun r2 h => ?_)
        try dsimp only at h
        refine lv_iload_n hx hb dX1_alikeInBundle_26 rfl (lv_at hl 2 rfl) ?_
        refine lv_icmp_ne (tgt := 49) hx hb dX1_alikeInBundle_27 (by decide) (fun hc => ?_) (fun hc => ?_)
        · have h := h.1 hc
          refine lv_iinc (v := x4 + 1) (lv' := [(4, .int (x4 + 1)), (0, .ref (a 0)), (1, .int i), (2, .int x2), (3, .int x3)]) hx hb dX1_alikeInBundle_49 hl (k := 4) rfl rfl (by decide) rfl (fun ls hl => ?_)
          refine lv_goto (tgt := 11) hx hb dX1_alikeInBundle_52 (by decide) ?_
          exact ih11 x2 x3 (x4 + 1) h ls (lv_sub hl [1, 2, 3, 4, 0] rfl)
        · have h := h.2 hc
          refine lv_aload_n hx hb dX1_alikeInBundle_30 rfl (lv_at hl 0 rfl) ?_
          refine va_get (D := D) (ci := 1) (v := .ref (a 4)) (C := RX1) (T := TX1) (N := 10) hx hb hts hi_X1_alikeInBundle_X1 hown hK.1 hP 0 rfl rfl 3 (by decide) (hts _ k_X1_alikeInBundle_2) (fun _ h9 => h9) rfl dX1_alikeInBundle_31 ?_
          refine lv_iload hx hb dX1_alikeInBundle_34 (lv_at hl 4 rfl) ?_
          obtain ⟨hi, h⟩ := h
          refine x_iald (v := topics x4.toNatClampNeg) hx hb hK hP 4 rfl hi rfl dX1_alikeInBundle_36 ?_
          refine lv_aload_n hx hb dX1_alikeInBundle_37 rfl (lv_at hl 0 rfl) ?_
          refine va_get (D := D) (ci := 1) (v := .ref (a 4)) (C := RX1) (T := TX1) (N := 10) hx hb hts hi_X1_alikeInBundle_X1 hown hK.1 hP 0 rfl rfl 3 (by decide) (hts _ k_X1_alikeInBundle_2) (fun _ h9 => h9) rfl dX1_alikeInBundle_38 ?_
          refine lv_iload_n hx hb dX1_alikeInBundle_41 rfl (lv_at hl 1 rfl) ?_
          obtain ⟨hi, h⟩ := h
          refine x_iald (v := topics i.toNatClampNeg) hx hb hK hP 4 rfl hi rfl dX1_alikeInBundle_42 ?_
          refine lv_icmp_ne (tgt := 49) hx hb dX1_alikeInBundle_43 (by decide) (fun hc => ?_) (fun hc => ?_)
          · have h := h.1 hc
            refine lv_iinc (v := x4 + 1) (lv' := [(4, .int (x4 + 1)), (0, .ref (a 0)), (1, .int i), (2, .int x2), (3, .int x3)]) hx hb dX1_alikeInBundle_49 hl (k := 4) rfl rfl (by decide) rfl (fun ls hl => ?_)
            refine lv_goto (tgt := 11) hx hb dX1_alikeInBundle_52 (by decide) ?_
            exact ih11 x2 x3 (x4 + 1) h ls (lv_sub hl [1, 2, 3, 4, 0] rfl)
          · have h := h.2 hc
            refine lv_iinc (v := x3 + 1) (lv' := [(3, .int (x3 + 1)), (0, .ref (a 0)), (1, .int i), (2, .int x2), (4, .int x4)]) hx hb dX1_alikeInBundle_46 hl (k := 3) rfl rfl (by decide) rfl (fun ls hl => ?_)
            refine lv_iinc (v := x4 + 1) (lv' := [(4, .int (x4 + 1)), (3, .int (x3 + 1)), (0, .ref (a 0)), (1, .int i), (2, .int x2)]) hx hb dX1_alikeInBundle_49 hl (k := 4) rfl rfl (by decide) rfl (fun ls hl => ?_)
            refine lv_goto (tgt := 11) hx hb dX1_alikeInBundle_52 (by decide) ?_
            exact ih11 x2 (x3 + 1) (x4 + 1) h ls (lv_sub hl [2, 3, 4, 1, 0] rfl)
  unfold wp_X1_alikeInBundle at h
  refine lv_aload_n hx hb dX1_alikeInBundle_0 rfl (lv_at hl 0 rfl) ?_
  refine lv_iload_n hx hb dX1_alikeInBundle_1 rfl (lv_at hl 1 rfl) ?_
  refine rd_calli (va_runV (As := [.int i]) (rest := []) ⟨hx, hb, hml, hown, hts⟩ (c_X1_beginningOf l D ca a kinds whos toWhoms topics weights answered deeds size saidBits deedCount i _ h) (cwV 1 hts gX1_alikeInBundle_X1_beginningOf rfl rfl rfl (by decide +kernel) ⟨Nat.le_of_ble_eq_true rfl, Nat.le_of_ble_eq_true rfl⟩) (PcX.preV (q := (RX1, TX1, 10)) (ci := 1) (q0 := 0) hK hP rfl rfl hP) rfl rfl hl.1 rfl (lv_room (Nat.le_of_ble_eq_true rfl)) dX1_alikeInBundle_2 ⟨Nat.le_of_ble_eq_true rfl, Nat.le_of_ble_eq_true rfl⟩) (fun r1 h => ?_)
  try dsimp only at h
  refine lv_istore_n (lv' := [(2, .int r1), (0, .ref (a 0)), (1, .int i)]) hx hb dX1_alikeInBundle_5 rfl hl (by decide) rfl (fun ls hl => ?_)
  refine lv_iconst (v := (0)) hx hb dX1_alikeInBundle_6 (by decide) ?_
  refine lv_istore_n (lv' := [(3, .int (0 : Int32)), (2, .int r1), (0, .ref (a 0)), (1, .int i)]) hx hb dX1_alikeInBundle_7 rfl hl (by decide) rfl (fun ls hl => ?_)
  refine lv_iconst (v := (0)) hx hb dX1_alikeInBundle_8 (by decide) ?_
  refine lv_istore (lv' := [(4, .int (0 : Int32)), (3, .int (0 : Int32)), (2, .int r1), (0, .ref (a 0)), (1, .int i)]) hx hb dX1_alikeInBundle_9 hl (by decide) rfl (fun ls hl => ?_)
  obtain ⟨zn, h⟩ := h
  exact w_11  zn r1 (0 : Int32) (0 : Int32) h ls (lv_sub hl [3, 4, 2, 1, 0] rfl)

-- IronedQuarrels$Heap.isFull()Z
def wp_X1_isFull (size : Int32) (post : Int32 → Prop) : Prop :=
  (size < (12 : Int32) → (post (0 : Int32))) ∧ (¬ size < (12 : Int32) → (post (1 : Int32)))
def rm_X1_isFull : Room := { frames := 0, cells := 0, slots := 0, locals := 0 }
theorem k_X1_isFull_1 : Cond.fieldLink RX1 33 "IronedQuarrels$Heap" "size" "I" ∈ wsX1_isFull := List.mem_of_getElem? (i := 1) (by decide +kernel)
theorem hi_X1_isFull_X1 : ∀ w ∈ wsX10, w ∈ wsX1_isFull := fun w h => List.mem_cons_of_mem _ (List.mem_append_right _ h)
set_option maxHeartbeats 4000000 in
set_option maxRecDepth 100000 in
theorem c_X1_isFull (l : Launch) (D : va_G) (ca : Nat → ClassId) (a : Nat → Nat) (kinds : Nat → Int32) (whos : Nat → Int32) (toWhoms : Nat → Int32) (topics : Nat → Int32) (weights : Nat → Int32) (answered : Nat → Int32) (deeds : Nat → Int32) (size : Int32) (saidBits : Int32) (deedCount : Int32)  (post : Int32 → Prop) (h : wp_X1_isFull size post) : Met l yX1_isFull wsX1_isFull rm_X1_isFull (PcX D ca [.ref (a 0)] (W_X1 ca a kinds whos toWhoms topics weights answered deeds size saidBits deedCount)) (rdZ post) 0 0 (fun _ => False) := by
  refine Met.ofW (cc := cX1_isFull) (maxL := 1) (ret := (some .boolean)) (by decide) rfl ?_
  intro zp ze zs zm za zb zt zc z1 B hml hv
  obtain ⟨rfl, hP, hK⟩ := hv
  have hx := B.exec
  have hb := B.bytes
  have hr := B.returns
  have hts := atoms_spec (ws := wsX1_isFull) B.pre
  have hown : zs.vm.findClass RX1 = some zm.cls := findClass_of_methodNamed B.named
  have hlocks := B.notSynchronized
  have hl := lv_entry ([.ref (a 0)]) (n := 1) (Nat.le_of_ble_eq_true rfl)
  rw [lg_entry_eq]
  generalize (lg_sl ([.ref (a 0)]) ++ List.replicate (1 - (lg_sl ([.ref (a 0)])).length) Slot.unset).toArray = ls at hl ⊢
  replace hl : lv_has ls 1 [(0, .ref (a 0))] := hl
  show W zp l ze rm_X1_isFull zs zm ([.ref (a 0)] : List Value).toArray zb zt zc zs.heap [] 0 0 (MQ zb (rdZ post) ([.ref (a 0)] : List Value).toArray zs 0 0 (fun _ => False)) (F0 zm 0 ls [])
  unfold wp_X1_isFull at h
  refine lv_aload_n hx hb dX1_isFull_0 rfl (lv_at hl 0 rfl) ?_
  refine va_get (D := D) (ci := 1) (v := .int size) (C := RX1) (T := TX1) (N := 10) hx hb hts hi_X1_isFull_X1 hown hK.1 hP 0 rfl rfl 7 (by decide) (hts _ k_X1_isFull_1) (fun _ h9 => h9) rfl dX1_isFull_1 ?_
  refine lv_bipush (v := (12)) hx hb dX1_isFull_4 (by decide) ?_
  refine lv_icmp_lt (tgt := 13) hx hb dX1_isFull_6 (by decide) (fun hc => ?_) (fun hc => ?_)
  · have h := h.1 hc
    refine lv_iconst (v := (0)) hx hb dX1_isFull_13 (by decide) ?_
    exact W.zret (v := (0 : Int32)) hx hb hr nar0 (fun t ht hW => ⟨(0 : Int32), rfl, ⟨h, nar0⟩, ht⟩) (fun q hq => absurd hq List.not_mem_nil) dX1_isFull_14
  · have h := h.2 hc
    refine lv_iconst (v := (1)) hx hb dX1_isFull_9 (by decide) ?_
    refine lv_goto (tgt := 14) hx hb dX1_isFull_10 (by decide) ?_
    exact W.zret (v := (1 : Int32)) hx hb hr nar1 (fun t ht hW => ⟨(1 : Int32), rfl, ⟨h, nar1⟩, ht⟩) (fun q hq => absurd hq List.not_mem_nil) dX1_isFull_14

-- IronedQuarrels$Heap.deedsAreFull()Z
def wp_X1_deedsAreFull (deedCount : Int32) (post : Int32 → Prop) : Prop :=
  (deedCount < (40 : Int32) → (post (0 : Int32))) ∧ (¬ deedCount < (40 : Int32) → (post (1 : Int32)))
def rm_X1_deedsAreFull : Room := { frames := 0, cells := 0, slots := 0, locals := 0 }
theorem k_X1_deedsAreFull_1 : Cond.fieldLink RX1 40 "IronedQuarrels$Heap" "deedCount" "I" ∈ wsX1_deedsAreFull := List.mem_of_getElem? (i := 1) (by decide +kernel)
theorem hi_X1_deedsAreFull_X1 : ∀ w ∈ wsX10, w ∈ wsX1_deedsAreFull := fun w h => List.mem_cons_of_mem _ (List.mem_append_right _ h)
set_option maxHeartbeats 4000000 in
set_option maxRecDepth 100000 in
theorem c_X1_deedsAreFull (l : Launch) (D : va_G) (ca : Nat → ClassId) (a : Nat → Nat) (kinds : Nat → Int32) (whos : Nat → Int32) (toWhoms : Nat → Int32) (topics : Nat → Int32) (weights : Nat → Int32) (answered : Nat → Int32) (deeds : Nat → Int32) (size : Int32) (saidBits : Int32) (deedCount : Int32)  (post : Int32 → Prop) (h : wp_X1_deedsAreFull deedCount post) : Met l yX1_deedsAreFull wsX1_deedsAreFull rm_X1_deedsAreFull (PcX D ca [.ref (a 0)] (W_X1 ca a kinds whos toWhoms topics weights answered deeds size saidBits deedCount)) (rdZ post) 0 0 (fun _ => False) := by
  refine Met.ofW (cc := cX1_deedsAreFull) (maxL := 1) (ret := (some .boolean)) (by decide) rfl ?_
  intro zp ze zs zm za zb zt zc z1 B hml hv
  obtain ⟨rfl, hP, hK⟩ := hv
  have hx := B.exec
  have hb := B.bytes
  have hr := B.returns
  have hts := atoms_spec (ws := wsX1_deedsAreFull) B.pre
  have hown : zs.vm.findClass RX1 = some zm.cls := findClass_of_methodNamed B.named
  have hlocks := B.notSynchronized
  have hl := lv_entry ([.ref (a 0)]) (n := 1) (Nat.le_of_ble_eq_true rfl)
  rw [lg_entry_eq]
  generalize (lg_sl ([.ref (a 0)]) ++ List.replicate (1 - (lg_sl ([.ref (a 0)])).length) Slot.unset).toArray = ls at hl ⊢
  replace hl : lv_has ls 1 [(0, .ref (a 0))] := hl
  show W zp l ze rm_X1_deedsAreFull zs zm ([.ref (a 0)] : List Value).toArray zb zt zc zs.heap [] 0 0 (MQ zb (rdZ post) ([.ref (a 0)] : List Value).toArray zs 0 0 (fun _ => False)) (F0 zm 0 ls [])
  unfold wp_X1_deedsAreFull at h
  refine lv_aload_n hx hb dX1_deedsAreFull_0 rfl (lv_at hl 0 rfl) ?_
  refine va_get (D := D) (ci := 1) (v := .int deedCount) (C := RX1) (T := TX1) (N := 10) hx hb hts hi_X1_deedsAreFull_X1 hown hK.1 hP 0 rfl rfl 9 (by decide) (hts _ k_X1_deedsAreFull_1) (fun _ h9 => h9) rfl dX1_deedsAreFull_1 ?_
  refine lv_bipush (v := (40)) hx hb dX1_deedsAreFull_4 (by decide) ?_
  refine lv_icmp_lt (tgt := 13) hx hb dX1_deedsAreFull_6 (by decide) (fun hc => ?_) (fun hc => ?_)
  · have h := h.1 hc
    refine lv_iconst (v := (0)) hx hb dX1_deedsAreFull_13 (by decide) ?_
    exact W.zret (v := (0 : Int32)) hx hb hr nar0 (fun t ht hW => ⟨(0 : Int32), rfl, ⟨h, nar0⟩, ht⟩) (fun q hq => absurd hq List.not_mem_nil) dX1_deedsAreFull_14
  · have h := h.2 hc
    refine lv_iconst (v := (1)) hx hb dX1_deedsAreFull_9 (by decide) ?_
    refine lv_goto (tgt := 14) hx hb dX1_deedsAreFull_10 (by decide) ?_
    exact W.zret (v := (1 : Int32)) hx hb hr nar1 (fun t ht hW => ⟨(1 : Int32), rfl, ⟨h, nar1⟩, ht⟩) (fun q hq => absurd hq List.not_mem_nil) dX1_deedsAreFull_14

-- IronedQuarrels$Heap.add(IIIIII)V
def wp_X1_add (kinds : Nat → Int32) (whos : Nat → Int32) (toWhoms : Nat → Int32) (topics : Nat → Int32) (weights : Nat → Int32) (answered : Nat → Int32) (size : Int32) (saidBits : Int32) (kind : Int32) (who : Int32) (toWhom : Int32) (topic : Int32) (weight : Int32) (answers : Int32) (post : (Nat → Int32) → (Nat → Int32) → (Nat → Int32) → (Nat → Int32) → (Nat → Int32) → (Nat → Int32) → (Int32) → (Int32) → Prop) : Prop :=
  wp_X1_isFull size (fun r1 => (r1 = 0 → (vp_in size 12 ∧ vp_in size 12 ∧ vp_in size 12 ∧ vp_in size 12 ∧ vp_in size 12 ∧ vp_in size 12 ∧ wp_X7_bit size (fun r2 => post (upd kinds (size.toNatClampNeg) kind) (upd whos (size.toNatClampNeg) who) (upd toWhoms (size.toNatClampNeg) toWhom) (upd topics (size.toNatClampNeg) topic) (upd weights (size.toNatClampNeg) weight) (upd answered (size.toNatClampNeg) answers) (size + (1 : Int32)) (saidBits ||| r2)))) ∧ (¬ r1 = 0 → (post kinds whos toWhoms topics weights answered size saidBits)))
def rm_X1_add : Room := { frames := 1, cells := 0, slots := 0, locals := 20 }
theorem k_X1_add_1 : Cond.fieldLink RX1 9 "IronedQuarrels$Heap" "kinds" "[I" ∈ wsX1_add := List.mem_of_getElem? (i := 1) (by decide +kernel)
theorem k_X1_add_2 : Cond.fieldLink RX1 33 "IronedQuarrels$Heap" "size" "I" ∈ wsX1_add := List.mem_of_getElem? (i := 2) (by decide +kernel)
theorem k_X1_add_3 : Cond.fieldLink RX1 15 "IronedQuarrels$Heap" "whos" "[I" ∈ wsX1_add := List.mem_of_getElem? (i := 3) (by decide +kernel)
theorem k_X1_add_4 : Cond.fieldLink RX1 18 "IronedQuarrels$Heap" "toWhoms" "[I" ∈ wsX1_add := List.mem_of_getElem? (i := 4) (by decide +kernel)
theorem k_X1_add_5 : Cond.fieldLink RX1 21 "IronedQuarrels$Heap" "topics" "[I" ∈ wsX1_add := List.mem_of_getElem? (i := 5) (by decide +kernel)
theorem k_X1_add_6 : Cond.fieldLink RX1 24 "IronedQuarrels$Heap" "weights" "[I" ∈ wsX1_add := List.mem_of_getElem? (i := 6) (by decide +kernel)
theorem k_X1_add_7 : Cond.fieldLink RX1 27 "IronedQuarrels$Heap" "answered" "[I" ∈ wsX1_add := List.mem_of_getElem? (i := 7) (by decide +kernel)
theorem k_X1_add_8 : Cond.fieldLink RX1 37 "IronedQuarrels$Heap" "saidBits" "I" ∈ wsX1_add := List.mem_of_getElem? (i := 8) (by decide +kernel)
theorem k_X1_add_14 : Cond.static yX7_bit ∈ wsX1_add := List.mem_of_getElem? (i := 14) (by decide +kernel)
theorem k_X1_add_15 : Cond.initialized RX7 ∈ wsX1_add := List.mem_of_getElem? (i := 15) (by decide +kernel)
theorem hi_X1_add_X1 : ∀ w ∈ wsX10, w ∈ wsX1_add := fun w h => List.mem_cons_of_mem _ (List.mem_append_right _ h)
set_option maxHeartbeats 4000000 in
set_option maxRecDepth 100000 in
theorem c_X1_add (l : Launch) (D : va_G) (ca : Nat → ClassId) (a : Nat → Nat) (kinds : Nat → Int32) (whos : Nat → Int32) (toWhoms : Nat → Int32) (topics : Nat → Int32) (weights : Nat → Int32) (answered : Nat → Int32) (deeds : Nat → Int32) (size : Int32) (saidBits : Int32) (deedCount : Int32) (kind : Int32) (who : Int32) (toWhom : Int32) (topic : Int32) (weight : Int32) (answers : Int32) (post : (Nat → Int32) → (Nat → Int32) → (Nat → Int32) → (Nat → Int32) → (Nat → Int32) → (Nat → Int32) → (Int32) → (Int32) → Prop) (hd : va_D (fun _ => True) (W_X1 ca a kinds whos toWhoms topics weights answered deeds size saidBits deedCount)) (h : wp_X1_add kinds whos toWhoms topics weights answered size saidBits kind who toWhom topic weight answers post) : Met l yX1_add wsX1_add rm_X1_add (PcX D ca [.ref (a 0), .int kind, .int who, .int toWhom, .int topic, .int weight, .int answers] (W_X1 ca a kinds whos toWhoms topics weights answered deeds size saidBits deedCount)) (wrV (S := (Nat → Int32) × (Nat → Int32) × (Nat → Int32) × (Nat → Int32) × (Nat → Int32) × (Nat → Int32) × (Int32) × (Int32)) D (W_X1 ca a kinds whos toWhoms topics weights answered deeds size saidBits deedCount) (fun u => W_X1 ca a u.1 u.2.1 u.2.2.1 u.2.2.2.1 u.2.2.2.2.1 u.2.2.2.2.2.1 deeds u.2.2.2.2.2.2.1 u.2.2.2.2.2.2.2 deedCount) (fun u => post u.1 u.2.1 u.2.2.1 u.2.2.2.1 u.2.2.2.2.1 u.2.2.2.2.2.1 u.2.2.2.2.2.2.1 u.2.2.2.2.2.2.2)) 0 0 (adr (W_X1 ca a kinds whos toWhoms topics weights answered deeds size saidBits deedCount)) := by
  refine Met.ofW (cc := cX1_add) (maxL := 7) (ret := none) (by decide) rfl ?_
  intro zp ze zs zm za zb zt zc z1 B hml hv
  obtain ⟨rfl, hP, hK⟩ := hv
  have hx := B.exec
  have hb := B.bytes
  have hr := B.returns
  have hts := atoms_spec (ws := wsX1_add) B.pre
  have hown : zs.vm.findClass RX1 = some zm.cls := findClass_of_methodNamed B.named
  have hlocks := B.notSynchronized
  have hD : va_D (adr (W_X1 ca a kinds whos toWhoms topics weights answered deeds size saidBits deedCount)) (W_X1 ca a kinds whos toWhoms topics weights answered deeds size saidBits deedCount) := hd.adr
  have hS : va_S (adr (W_X1 ca a kinds whos toWhoms topics weights answered deeds size saidBits deedCount)) zs.heap zs.heap [] := va_S.rf
  have hl := lv_entry ([.ref (a 0), .int kind, .int who, .int toWhom, .int topic, .int weight, .int answers]) (n := 7) (Nat.le_of_ble_eq_true rfl)
  rw [lg_entry_eq]
  generalize (lg_sl ([.ref (a 0), .int kind, .int who, .int toWhom, .int topic, .int weight, .int answers]) ++ List.replicate (7 - (lg_sl ([.ref (a 0), .int kind, .int who, .int toWhom, .int topic, .int weight, .int answers])).length) Slot.unset).toArray = ls at hl ⊢
  replace hl : lv_has ls 7 [(0, .ref (a 0)), (1, .int kind), (2, .int who), (3, .int toWhom), (4, .int topic), (5, .int weight), (6, .int answers)] := hl
  show W zp l ze rm_X1_add zs zm ([.ref (a 0), .int kind, .int who, .int toWhom, .int topic, .int weight, .int answers] : List Value).toArray zb zt zc zs.heap [] 0 0 (MQ zb (wrV (S := (Nat → Int32) × (Nat → Int32) × (Nat → Int32) × (Nat → Int32) × (Nat → Int32) × (Nat → Int32) × (Int32) × (Int32)) D (W_X1 ca a kinds whos toWhoms topics weights answered deeds size saidBits deedCount) (fun u => W_X1 ca a u.1 u.2.1 u.2.2.1 u.2.2.2.1 u.2.2.2.2.1 u.2.2.2.2.2.1 deeds u.2.2.2.2.2.2.1 u.2.2.2.2.2.2.2 deedCount) (fun u => post u.1 u.2.1 u.2.2.1 u.2.2.2.1 u.2.2.2.2.1 u.2.2.2.2.2.1 u.2.2.2.2.2.2.1 u.2.2.2.2.2.2.2)) ([.ref (a 0), .int kind, .int who, .int toWhom, .int topic, .int weight, .int answers] : List Value).toArray zs 0 0 (adr (W_X1 ca a kinds whos toWhoms topics weights answered deeds size saidBits deedCount))) (F0 zm 0 ls [])
  unfold wp_X1_add at h
  refine lv_aload_n hx hb dX1_add_0 rfl (lv_at hl 0 rfl) ?_
  refine rd_callz (va_runV (As := []) (rest := []) ⟨hx, hb, hml, hown, hts⟩ (c_X1_isFull l D ca a kinds whos toWhoms topics weights answered deeds size saidBits deedCount  _ h) (cwV 0 hts gX1_add_X1_isFull rfl rfl rfl (by decide +kernel) ⟨Nat.le_of_ble_eq_true rfl, Nat.le_of_ble_eq_true rfl⟩) (PcX.preV (q := (RX1, TX1, 10)) (ci := 1) (q0 := 0) hK hP rfl rfl hP) rfl rfl hl.1 rfl (lv_room (Nat.le_of_ble_eq_true rfl)) dX1_add_1 ⟨Nat.le_of_ble_eq_true rfl, Nat.le_of_ble_eq_true rfl⟩) (fun r1 h hz_r1 => ?_)
  try dsimp only at h
  refine lv_if_eq (tgt := 8) hx hb dX1_add_4 (by decide) (fun hc => ?_) (fun hc => ?_)
  · have h := h.1 hc
    refine lv_aload_n hx hb dX1_add_8 rfl (lv_at hl 0 rfl) ?_
    refine va_get (D := D) (ci := 1) (v := .ref (a 1)) (C := RX1) (T := TX1) (N := 10) hx hb hts hi_X1_add_X1 hown hK.1 hP 0 rfl rfl 0 (by decide) (hts _ k_X1_add_1) (fun _ h9 => h9) rfl dX1_add_9 ?_
    refine lv_aload_n hx hb dX1_add_12 rfl (lv_at hl 0 rfl) ?_
    refine va_get (D := D) (ci := 1) (v := .int size) (C := RX1) (T := TX1) (N := 10) hx hb hts hi_X1_add_X1 hown hK.1 hP 0 rfl rfl 7 (by decide) (hts _ k_X1_add_2) (fun _ h9 => h9) rfl dX1_add_13 ?_
    refine lv_iload_n hx hb dX1_add_16 rfl (lv_at hl 1 rfl) ?_
    obtain ⟨hi, h⟩ := h
    refine x_iast (ws' := W_X1 ca a (upd kinds (size.toNatClampNeg) kind) whos toWhoms topics weights answered deeds size saidBits deedCount) hx hb hK hP hD hS 1 rfl hi (k := (size.toNatClampNeg)) rfl rfl dX1_add_17 (fun H locs hP hD hS => ?_)
    refine lv_aload_n hx hb dX1_add_18 rfl (lv_at hl 0 rfl) ?_
    refine va_get (D := D) (ci := 1) (v := .ref (a 2)) (C := RX1) (T := TX1) (N := 10) hx hb hts hi_X1_add_X1 hown hK.1 hP 0 rfl rfl 1 (by decide) (hts _ k_X1_add_3) (fun _ h9 => h9) rfl dX1_add_19 ?_
    refine lv_aload_n hx hb dX1_add_22 rfl (lv_at hl 0 rfl) ?_
    refine va_get (D := D) (ci := 1) (v := .int size) (C := RX1) (T := TX1) (N := 10) hx hb hts hi_X1_add_X1 hown hK.1 hP 0 rfl rfl 7 (by decide) (hts _ k_X1_add_2) (fun _ h9 => h9) rfl dX1_add_23 ?_
    refine lv_iload_n hx hb dX1_add_26 rfl (lv_at hl 2 rfl) ?_
    obtain ⟨hi, h⟩ := h
    refine x_iast (ws' := W_X1 ca a (upd kinds (size.toNatClampNeg) kind) (upd whos (size.toNatClampNeg) who) toWhoms topics weights answered deeds size saidBits deedCount) hx hb hK hP hD hS 2 rfl hi (k := (size.toNatClampNeg)) rfl rfl dX1_add_27 (fun H locs hP hD hS => ?_)
    refine lv_aload_n hx hb dX1_add_28 rfl (lv_at hl 0 rfl) ?_
    refine va_get (D := D) (ci := 1) (v := .ref (a 3)) (C := RX1) (T := TX1) (N := 10) hx hb hts hi_X1_add_X1 hown hK.1 hP 0 rfl rfl 2 (by decide) (hts _ k_X1_add_4) (fun _ h9 => h9) rfl dX1_add_29 ?_
    refine lv_aload_n hx hb dX1_add_32 rfl (lv_at hl 0 rfl) ?_
    refine va_get (D := D) (ci := 1) (v := .int size) (C := RX1) (T := TX1) (N := 10) hx hb hts hi_X1_add_X1 hown hK.1 hP 0 rfl rfl 7 (by decide) (hts _ k_X1_add_2) (fun _ h9 => h9) rfl dX1_add_33 ?_
    refine lv_iload_n hx hb dX1_add_36 rfl (lv_at hl 3 rfl) ?_
    obtain ⟨hi, h⟩ := h
    refine x_iast (ws' := W_X1 ca a (upd kinds (size.toNatClampNeg) kind) (upd whos (size.toNatClampNeg) who) (upd toWhoms (size.toNatClampNeg) toWhom) topics weights answered deeds size saidBits deedCount) hx hb hK hP hD hS 3 rfl hi (k := (size.toNatClampNeg)) rfl rfl dX1_add_37 (fun H locs hP hD hS => ?_)
    refine lv_aload_n hx hb dX1_add_38 rfl (lv_at hl 0 rfl) ?_
    refine va_get (D := D) (ci := 1) (v := .ref (a 4)) (C := RX1) (T := TX1) (N := 10) hx hb hts hi_X1_add_X1 hown hK.1 hP 0 rfl rfl 3 (by decide) (hts _ k_X1_add_5) (fun _ h9 => h9) rfl dX1_add_39 ?_
    refine lv_aload_n hx hb dX1_add_42 rfl (lv_at hl 0 rfl) ?_
    refine va_get (D := D) (ci := 1) (v := .int size) (C := RX1) (T := TX1) (N := 10) hx hb hts hi_X1_add_X1 hown hK.1 hP 0 rfl rfl 7 (by decide) (hts _ k_X1_add_2) (fun _ h9 => h9) rfl dX1_add_43 ?_
    refine lv_iload hx hb dX1_add_46 (lv_at hl 4 rfl) ?_
    obtain ⟨hi, h⟩ := h
    refine x_iast (ws' := W_X1 ca a (upd kinds (size.toNatClampNeg) kind) (upd whos (size.toNatClampNeg) who) (upd toWhoms (size.toNatClampNeg) toWhom) (upd topics (size.toNatClampNeg) topic) weights answered deeds size saidBits deedCount) hx hb hK hP hD hS 4 rfl hi (k := (size.toNatClampNeg)) rfl rfl dX1_add_48 (fun H locs hP hD hS => ?_)
    refine lv_aload_n hx hb dX1_add_49 rfl (lv_at hl 0 rfl) ?_
    refine va_get (D := D) (ci := 1) (v := .ref (a 5)) (C := RX1) (T := TX1) (N := 10) hx hb hts hi_X1_add_X1 hown hK.1 hP 0 rfl rfl 4 (by decide) (hts _ k_X1_add_6) (fun _ h9 => h9) rfl dX1_add_50 ?_
    refine lv_aload_n hx hb dX1_add_53 rfl (lv_at hl 0 rfl) ?_
    refine va_get (D := D) (ci := 1) (v := .int size) (C := RX1) (T := TX1) (N := 10) hx hb hts hi_X1_add_X1 hown hK.1 hP 0 rfl rfl 7 (by decide) (hts _ k_X1_add_2) (fun _ h9 => h9) rfl dX1_add_54 ?_
    refine lv_iload hx hb dX1_add_57 (lv_at hl 5 rfl) ?_
    obtain ⟨hi, h⟩ := h
    refine x_iast (ws' := W_X1 ca a (upd kinds (size.toNatClampNeg) kind) (upd whos (size.toNatClampNeg) who) (upd toWhoms (size.toNatClampNeg) toWhom) (upd topics (size.toNatClampNeg) topic) (upd weights (size.toNatClampNeg) weight) answered deeds size saidBits deedCount) hx hb hK hP hD hS 5 rfl hi (k := (size.toNatClampNeg)) rfl rfl dX1_add_59 (fun H locs hP hD hS => ?_)
    refine lv_aload_n hx hb dX1_add_60 rfl (lv_at hl 0 rfl) ?_
    refine va_get (D := D) (ci := 1) (v := .ref (a 6)) (C := RX1) (T := TX1) (N := 10) hx hb hts hi_X1_add_X1 hown hK.1 hP 0 rfl rfl 5 (by decide) (hts _ k_X1_add_7) (fun _ h9 => h9) rfl dX1_add_61 ?_
    refine lv_aload_n hx hb dX1_add_64 rfl (lv_at hl 0 rfl) ?_
    refine va_get (D := D) (ci := 1) (v := .int size) (C := RX1) (T := TX1) (N := 10) hx hb hts hi_X1_add_X1 hown hK.1 hP 0 rfl rfl 7 (by decide) (hts _ k_X1_add_2) (fun _ h9 => h9) rfl dX1_add_65 ?_
    refine lv_iload hx hb dX1_add_68 (lv_at hl 6 rfl) ?_
    obtain ⟨hi, h⟩ := h
    refine x_iast (ws' := W_X1 ca a (upd kinds (size.toNatClampNeg) kind) (upd whos (size.toNatClampNeg) who) (upd toWhoms (size.toNatClampNeg) toWhom) (upd topics (size.toNatClampNeg) topic) (upd weights (size.toNatClampNeg) weight) (upd answered (size.toNatClampNeg) answers) deeds size saidBits deedCount) hx hb hK hP hD hS 6 rfl hi (k := (size.toNatClampNeg)) rfl rfl dX1_add_70 (fun H locs hP hD hS => ?_)
    refine lv_aload_n hx hb dX1_add_71 rfl (lv_at hl 0 rfl) ?_
    refine lv_dup hx hb dX1_add_72 rfl ?_
    refine va_get (D := D) (ci := 1) (v := .int saidBits) (C := RX1) (T := TX1) (N := 10) hx hb hts hi_X1_add_X1 hown hK.1 hP 0 rfl rfl 8 (by decide) (hts _ k_X1_add_8) (fun _ h9 => h9) rfl dX1_add_73 ?_
    refine lv_aload_n hx hb dX1_add_76 rfl (lv_at hl 0 rfl) ?_
    refine va_get (D := D) (ci := 1) (v := .int size) (C := RX1) (T := TX1) (N := 10) hx hb hts hi_X1_add_X1 hown hK.1 hP 0 rfl rfl 7 (by decide) (hts _ k_X1_add_2) (fun _ h9 => h9) rfl dX1_add_77 ?_
    refine rd_calli (va_runSN (As := [.int size]) (rest := [.int saidBits, .ref (a 0)]) ⟨hx, hb, hml, hown, hts⟩ (c_X7_bit l D ca   size _ h) ⟨va_cnB 1 hts gX1_add_X7_bit_n53 rfl rfl rfl (hK.2 (RX1, 53, yX7_bit, "IronedQuarrels") (List.mem_of_getElem? (i := 5) rfl)) (hts _ k_X1_add_15) (by decide +kernel) ⟨Nat.le_of_ble_eq_true rfl, Nat.le_of_ble_eq_true rfl⟩, hts _ k_X1_add_14, trivial⟩ (PcX.preS hK (fun k q h => by simp at h)) rfl rfl hl.1 rfl (lv_room (Nat.le_of_ble_eq_true rfl)) dX1_add_80 ⟨Nat.le_of_ble_eq_true rfl, Nat.le_of_ble_eq_true rfl⟩) (fun r2 h => ?_)
    try dsimp only at h
    refine lv_ior hx hb dX1_add_83 ?_
    refine va_put (D := D) (ci := 1) (v := .int (saidBits ||| r2)) (ty := .int) (C := RX1) (T := TX1) (N := 10) hx hb hts hi_X1_add_X1 tyX1 tyX1_ok nmX1 hown hK.1 hP hD hS 0 rfl rfl 8 (by decide) (hts _ k_X1_add_8) (fun _ h9 => h9) rfl (by decide +kernel) rfl rfl (Nat.le_of_ble_eq_true rfl) dX1_add_84 (fun H locs hP hD hS => ?_)
    have hP : va_P D vwCl (W_X1 ca a (upd kinds (size.toNatClampNeg) kind) (upd whos (size.toNatClampNeg) who) (upd toWhoms (size.toNatClampNeg) toWhom) (upd topics (size.toNatClampNeg) topic) (upd weights (size.toNatClampNeg) weight) (upd answered (size.toNatClampNeg) answers) deeds size (saidBits ||| r2) deedCount) H := hP
    have hD : va_D _ (W_X1 ca a (upd kinds (size.toNatClampNeg) kind) (upd whos (size.toNatClampNeg) who) (upd toWhoms (size.toNatClampNeg) toWhom) (upd topics (size.toNatClampNeg) topic) (upd weights (size.toNatClampNeg) weight) (upd answered (size.toNatClampNeg) answers) deeds size (saidBits ||| r2) deedCount) := hD
    refine lv_aload_n hx hb dX1_add_87 rfl (lv_at hl 0 rfl) ?_
    refine lv_dup hx hb dX1_add_88 rfl ?_
    refine va_get (D := D) (ci := 1) (v := .int size) (C := RX1) (T := TX1) (N := 10) hx hb hts hi_X1_add_X1 hown hK.1 hP 0 rfl rfl 7 (by decide) (hts _ k_X1_add_2) (fun _ h9 => h9) rfl dX1_add_89 ?_
    refine lv_iconst (v := (1)) hx hb dX1_add_92 (by decide) ?_
    refine lv_iadd hx hb dX1_add_93 ?_
    refine va_put (D := D) (ci := 1) (v := .int (size + (1 : Int32))) (ty := .int) (C := RX1) (T := TX1) (N := 10) hx hb hts hi_X1_add_X1 tyX1 tyX1_ok nmX1 hown hK.1 hP hD hS 0 rfl rfl 7 (by decide) (hts _ k_X1_add_2) (fun _ h9 => h9) rfl (by decide +kernel) rfl rfl (Nat.le_of_ble_eq_true rfl) dX1_add_94 (fun H locs hP hD hS => ?_)
    have hP : va_P D vwCl (W_X1 ca a (upd kinds (size.toNatClampNeg) kind) (upd whos (size.toNatClampNeg) who) (upd toWhoms (size.toNatClampNeg) toWhom) (upd topics (size.toNatClampNeg) topic) (upd weights (size.toNatClampNeg) weight) (upd answered (size.toNatClampNeg) answers) deeds (size + (1 : Int32)) (saidBits ||| r2) deedCount) H := hP
    have hD : va_D _ (W_X1 ca a (upd kinds (size.toNatClampNeg) kind) (upd whos (size.toNatClampNeg) who) (upd toWhoms (size.toNatClampNeg) toWhom) (upd topics (size.toNatClampNeg) topic) (upd weights (size.toNatClampNeg) weight) (upd answered (size.toNatClampNeg) answers) deeds (size + (1 : Int32)) (saidBits ||| r2) deedCount) := hD
    exact W.vret hx hb hr (fun t ht hW => ⟨⟨(upd kinds (size.toNatClampNeg) kind, upd whos (size.toNatClampNeg) who, upd toWhoms (size.toNatClampNeg) toWhom, upd topics (size.toNatClampNeg) topic, upd weights (size.toNatClampNeg) weight, upd answered (size.toNatClampNeg) answers, size + (1 : Int32), saidBits ||| r2), rfl, h, by rw [ht]; exact hP⟩, hS.F ht⟩) hS.2.2 dX1_add_97
  · have h := h.2 hc
    exact W.vret hx hb hr (fun t ht hW => ⟨⟨(kinds, whos, toWhoms, topics, weights, answered, size, saidBits), rfl, h, by rw [ht]; exact hP⟩, hS.F ht⟩) hS.2.2 dX1_add_7

-- IronedQuarrels$Heap.noteDeed(I)V
def wp_X1_noteDeed (deeds : Nat → Int32) (deedCount : Int32) (deed : Int32) (post : (Nat → Int32) → (Int32) → Prop) : Prop :=
  wp_X1_deedsAreFull deedCount (fun r1 => (¬ r1 = 0 → (post deeds deedCount)) ∧ (r1 = 0 → (vp_in deedCount 40 ∧ post (upd deeds (deedCount.toNatClampNeg) deed) (deedCount + (1 : Int32)))))
def rm_X1_noteDeed : Room := { frames := 1, cells := 0, slots := 0, locals := 20 }
theorem k_X1_noteDeed_1 : Cond.fieldLink RX1 30 "IronedQuarrels$Heap" "deeds" "[I" ∈ wsX1_noteDeed := List.mem_of_getElem? (i := 1) (by decide +kernel)
theorem k_X1_noteDeed_2 : Cond.fieldLink RX1 40 "IronedQuarrels$Heap" "deedCount" "I" ∈ wsX1_noteDeed := List.mem_of_getElem? (i := 2) (by decide +kernel)
theorem hi_X1_noteDeed_X1 : ∀ w ∈ wsX10, w ∈ wsX1_noteDeed := fun w h => List.mem_cons_of_mem _ (List.mem_append_right _ h)
set_option maxHeartbeats 4000000 in
set_option maxRecDepth 100000 in
theorem c_X1_noteDeed (l : Launch) (D : va_G) (ca : Nat → ClassId) (a : Nat → Nat) (kinds : Nat → Int32) (whos : Nat → Int32) (toWhoms : Nat → Int32) (topics : Nat → Int32) (weights : Nat → Int32) (answered : Nat → Int32) (deeds : Nat → Int32) (size : Int32) (saidBits : Int32) (deedCount : Int32) (deed : Int32) (post : (Nat → Int32) → (Int32) → Prop) (hd : va_D (fun _ => True) (W_X1 ca a kinds whos toWhoms topics weights answered deeds size saidBits deedCount)) (h : wp_X1_noteDeed deeds deedCount deed post) : Met l yX1_noteDeed wsX1_noteDeed rm_X1_noteDeed (PcX D ca [.ref (a 0), .int deed] (W_X1 ca a kinds whos toWhoms topics weights answered deeds size saidBits deedCount)) (wrV (S := (Nat → Int32) × (Int32)) D (W_X1 ca a kinds whos toWhoms topics weights answered deeds size saidBits deedCount) (fun u => W_X1 ca a kinds whos toWhoms topics weights answered u.1 size saidBits u.2) (fun u => post u.1 u.2)) 0 0 (adr (W_X1 ca a kinds whos toWhoms topics weights answered deeds size saidBits deedCount)) := by
  refine Met.ofW (cc := cX1_noteDeed) (maxL := 2) (ret := none) (by decide) rfl ?_
  intro zp ze zs zm za zb zt zc z1 B hml hv
  obtain ⟨rfl, hP, hK⟩ := hv
  have hx := B.exec
  have hb := B.bytes
  have hr := B.returns
  have hts := atoms_spec (ws := wsX1_noteDeed) B.pre
  have hown : zs.vm.findClass RX1 = some zm.cls := findClass_of_methodNamed B.named
  have hlocks := B.notSynchronized
  have hD : va_D (adr (W_X1 ca a kinds whos toWhoms topics weights answered deeds size saidBits deedCount)) (W_X1 ca a kinds whos toWhoms topics weights answered deeds size saidBits deedCount) := hd.adr
  have hS : va_S (adr (W_X1 ca a kinds whos toWhoms topics weights answered deeds size saidBits deedCount)) zs.heap zs.heap [] := va_S.rf
  have hl := lv_entry ([.ref (a 0), .int deed]) (n := 2) (Nat.le_of_ble_eq_true rfl)
  rw [lg_entry_eq]
  generalize (lg_sl ([.ref (a 0), .int deed]) ++ List.replicate (2 - (lg_sl ([.ref (a 0), .int deed])).length) Slot.unset).toArray = ls at hl ⊢
  replace hl : lv_has ls 2 [(0, .ref (a 0)), (1, .int deed)] := hl
  show W zp l ze rm_X1_noteDeed zs zm ([.ref (a 0), .int deed] : List Value).toArray zb zt zc zs.heap [] 0 0 (MQ zb (wrV (S := (Nat → Int32) × (Int32)) D (W_X1 ca a kinds whos toWhoms topics weights answered deeds size saidBits deedCount) (fun u => W_X1 ca a kinds whos toWhoms topics weights answered u.1 size saidBits u.2) (fun u => post u.1 u.2)) ([.ref (a 0), .int deed] : List Value).toArray zs 0 0 (adr (W_X1 ca a kinds whos toWhoms topics weights answered deeds size saidBits deedCount))) (F0 zm 0 ls [])
  unfold wp_X1_noteDeed at h
  refine lv_aload_n hx hb dX1_noteDeed_0 rfl (lv_at hl 0 rfl) ?_
  refine rd_callz (va_runV (As := []) (rest := []) ⟨hx, hb, hml, hown, hts⟩ (c_X1_deedsAreFull l D ca a kinds whos toWhoms topics weights answered deeds size saidBits deedCount  _ h) (cwV 0 hts gX1_noteDeed_X1_deedsAreFull rfl rfl rfl (by decide +kernel) ⟨Nat.le_of_ble_eq_true rfl, Nat.le_of_ble_eq_true rfl⟩) (PcX.preV (q := (RX1, TX1, 10)) (ci := 1) (q0 := 0) hK hP rfl rfl hP) rfl rfl hl.1 rfl (lv_room (Nat.le_of_ble_eq_true rfl)) dX1_noteDeed_1 ⟨Nat.le_of_ble_eq_true rfl, Nat.le_of_ble_eq_true rfl⟩) (fun r1 h hz_r1 => ?_)
  try dsimp only at h
  refine lv_if_ne (tgt := 27) hx hb dX1_noteDeed_4 (by decide) (fun hc => ?_) (fun hc => ?_)
  · have h := h.1 hc
    exact W.vret hx hb hr (fun t ht hW => ⟨⟨(deeds, deedCount), rfl, h, by rw [ht]; exact hP⟩, hS.F ht⟩) hS.2.2 dX1_noteDeed_27
  · have h := h.2 hc
    refine lv_aload_n hx hb dX1_noteDeed_7 rfl (lv_at hl 0 rfl) ?_
    refine va_get (D := D) (ci := 1) (v := .ref (a 7)) (C := RX1) (T := TX1) (N := 10) hx hb hts hi_X1_noteDeed_X1 hown hK.1 hP 0 rfl rfl 6 (by decide) (hts _ k_X1_noteDeed_1) (fun _ h9 => h9) rfl dX1_noteDeed_8 ?_
    refine lv_aload_n hx hb dX1_noteDeed_11 rfl (lv_at hl 0 rfl) ?_
    refine va_get (D := D) (ci := 1) (v := .int deedCount) (C := RX1) (T := TX1) (N := 10) hx hb hts hi_X1_noteDeed_X1 hown hK.1 hP 0 rfl rfl 9 (by decide) (hts _ k_X1_noteDeed_2) (fun _ h9 => h9) rfl dX1_noteDeed_12 ?_
    refine lv_iload_n hx hb dX1_noteDeed_15 rfl (lv_at hl 1 rfl) ?_
    obtain ⟨hi, h⟩ := h
    refine x_iast (ws' := W_X1 ca a kinds whos toWhoms topics weights answered (upd deeds (deedCount.toNatClampNeg) deed) size saidBits deedCount) hx hb hK hP hD hS 7 rfl hi (k := (deedCount.toNatClampNeg)) rfl rfl dX1_noteDeed_16 (fun H locs hP hD hS => ?_)
    refine lv_aload_n hx hb dX1_noteDeed_17 rfl (lv_at hl 0 rfl) ?_
    refine lv_dup hx hb dX1_noteDeed_18 rfl ?_
    refine va_get (D := D) (ci := 1) (v := .int deedCount) (C := RX1) (T := TX1) (N := 10) hx hb hts hi_X1_noteDeed_X1 hown hK.1 hP 0 rfl rfl 9 (by decide) (hts _ k_X1_noteDeed_2) (fun _ h9 => h9) rfl dX1_noteDeed_19 ?_
    refine lv_iconst (v := (1)) hx hb dX1_noteDeed_22 (by decide) ?_
    refine lv_iadd hx hb dX1_noteDeed_23 ?_
    refine va_put (D := D) (ci := 1) (v := .int (deedCount + (1 : Int32))) (ty := .int) (C := RX1) (T := TX1) (N := 10) hx hb hts hi_X1_noteDeed_X1 tyX1 tyX1_ok nmX1 hown hK.1 hP hD hS 0 rfl rfl 9 (by decide) (hts _ k_X1_noteDeed_2) (fun _ h9 => h9) rfl (by decide +kernel) rfl rfl (Nat.le_of_ble_eq_true rfl) dX1_noteDeed_24 (fun H locs hP hD hS => ?_)
    have hP : va_P D vwCl (W_X1 ca a kinds whos toWhoms topics weights answered (upd deeds (deedCount.toNatClampNeg) deed) size saidBits (deedCount + (1 : Int32))) H := hP
    have hD : va_D _ (W_X1 ca a kinds whos toWhoms topics weights answered (upd deeds (deedCount.toNatClampNeg) deed) size saidBits (deedCount + (1 : Int32))) := hD
    exact W.vret hx hb hr (fun t ht hW => ⟨⟨(upd deeds (deedCount.toNatClampNeg) deed, deedCount + (1 : Int32)), rfl, h, by rw [ht]; exact hP⟩, hS.F ht⟩) hS.2.2 dX1_noteDeed_27

-- IronedQuarrels$Heap.noteComing()V
def wp_X1_noteComing (deeds : Nat → Int32) (deedCount : Int32) (post : (Nat → Int32) → (Int32) → Prop) : Prop :=
  wp_X1_noteDeed deeds deedCount (-1 : Int32) (fun deeds_1 deedCount_2 => post deeds_1 deedCount_2)
def rm_X1_noteComing : Room := { frames := 2, cells := 0, slots := 0, locals := 41 }
theorem hi_X1_noteComing_X1 : ∀ w ∈ wsX10, w ∈ wsX1_noteComing := fun w h => List.mem_cons_of_mem _ (List.mem_append_right _ h)
set_option maxHeartbeats 4000000 in
set_option maxRecDepth 100000 in
theorem c_X1_noteComing (l : Launch) (D : va_G) (ca : Nat → ClassId) (a : Nat → Nat) (kinds : Nat → Int32) (whos : Nat → Int32) (toWhoms : Nat → Int32) (topics : Nat → Int32) (weights : Nat → Int32) (answered : Nat → Int32) (deeds : Nat → Int32) (size : Int32) (saidBits : Int32) (deedCount : Int32)  (post : (Nat → Int32) → (Int32) → Prop) (hd : va_D (fun _ => True) (W_X1 ca a kinds whos toWhoms topics weights answered deeds size saidBits deedCount)) (h : wp_X1_noteComing deeds deedCount post) : Met l yX1_noteComing wsX1_noteComing rm_X1_noteComing (PcX D ca [.ref (a 0)] (W_X1 ca a kinds whos toWhoms topics weights answered deeds size saidBits deedCount)) (wrV (S := (Nat → Int32) × (Int32)) D (W_X1 ca a kinds whos toWhoms topics weights answered deeds size saidBits deedCount) (fun u => W_X1 ca a kinds whos toWhoms topics weights answered u.1 size saidBits u.2) (fun u => post u.1 u.2)) 0 0 (adr (W_X1 ca a kinds whos toWhoms topics weights answered deeds size saidBits deedCount)) := by
  refine Met.ofW (cc := cX1_noteComing) (maxL := 1) (ret := none) (by decide) rfl ?_
  intro zp ze zs zm za zb zt zc z1 B hml hv
  obtain ⟨rfl, hP, hK⟩ := hv
  have hx := B.exec
  have hb := B.bytes
  have hr := B.returns
  have hts := atoms_spec (ws := wsX1_noteComing) B.pre
  have hown : zs.vm.findClass RX1 = some zm.cls := findClass_of_methodNamed B.named
  have hlocks := B.notSynchronized
  have hD : va_D (adr (W_X1 ca a kinds whos toWhoms topics weights answered deeds size saidBits deedCount)) (W_X1 ca a kinds whos toWhoms topics weights answered deeds size saidBits deedCount) := hd.adr
  have hS : va_S (adr (W_X1 ca a kinds whos toWhoms topics weights answered deeds size saidBits deedCount)) zs.heap zs.heap [] := va_S.rf
  have hl := lv_entry ([.ref (a 0)]) (n := 1) (Nat.le_of_ble_eq_true rfl)
  rw [lg_entry_eq]
  generalize (lg_sl ([.ref (a 0)]) ++ List.replicate (1 - (lg_sl ([.ref (a 0)])).length) Slot.unset).toArray = ls at hl ⊢
  replace hl : lv_has ls 1 [(0, .ref (a 0))] := hl
  show W zp l ze rm_X1_noteComing zs zm ([.ref (a 0)] : List Value).toArray zb zt zc zs.heap [] 0 0 (MQ zb (wrV (S := (Nat → Int32) × (Int32)) D (W_X1 ca a kinds whos toWhoms topics weights answered deeds size saidBits deedCount) (fun u => W_X1 ca a kinds whos toWhoms topics weights answered u.1 size saidBits u.2) (fun u => post u.1 u.2)) ([.ref (a 0)] : List Value).toArray zs 0 0 (adr (W_X1 ca a kinds whos toWhoms topics weights answered deeds size saidBits deedCount))) (F0 zm 0 ls [])
  unfold wp_X1_noteComing at h
  refine lv_aload_n hx hb dX1_noteComing_0 rfl (lv_at hl 0 rfl) ?_
  refine lv_iconst (v := (-1)) hx hb dX1_noteComing_1 (by decide) ?_
  refine wr_callv (ws1 := fun u => W_X1 ca a kinds whos toWhoms topics weights answered u.1 size saidBits u.2) (wr := ([] : List Nat).filterMap (fun i => (W_X1 ca a kinds whos toWhoms topics weights answered deeds size saidBits deedCount : va_W)[i]?)) (n := 8) (va_runV (As := [.int (-1 : Int32)]) (rest := []) ⟨hx, hb, hml, hown, hts⟩ (c_X1_noteDeed l D ca a kinds whos toWhoms topics weights answered deeds size saidBits deedCount (-1 : Int32) _ (hD.subM [0, 1, 2, 3, 4, 5, 6, 7] (by decide) rfl) h) (cwV 1 hts gX1_noteComing_X1_noteDeed rfl rfl rfl (by decide +kernel) ⟨Nat.le_of_ble_eq_true rfl, Nat.le_of_ble_eq_true rfl⟩) (PcX.preV (q := (RX1, TX1, 10)) (ci := 1) (q0 := 0) hK hP rfl rfl hP) rfl rfl hl.1 rfl (lv_room (Nat.le_of_ble_eq_true rfl)) dX1_noteComing_2 ⟨Nat.le_of_ble_eq_true rfl, Nat.le_of_ble_eq_true rfl⟩) hP hD hS [0, 1, 2, 3, 4, 5, 6, 7] [] rfl (fun _ => rfl) rfl (fun _ => rfl) (fun _ => rfl) (fun _ => rfl) (by decide +kernel) (by decide +kernel) (fun u H locs h hP hD hS => ?_)
  obtain ⟨deeds_1, deedCount_2⟩ := u
  have hP : va_P D vwCl (W_X1 ca a kinds whos toWhoms topics weights answered deeds_1 size saidBits deedCount_2) H := hP
  have hD : va_D _ (W_X1 ca a kinds whos toWhoms topics weights answered deeds_1 size saidBits deedCount_2) := hD
  try dsimp only at h
  exact W.vret hx hb hr (fun t ht hW => ⟨⟨(deeds_1, deedCount_2), rfl, h, by rw [ht]; exact hP⟩, hS.F ht⟩) hS.2.2 dX1_noteComing_5

-- IronedQuarrels$Heap.howMany()I
def wp_X1_howMany (size : Int32) (post : Int32 → Prop) : Prop :=
  post size
def rm_X1_howMany : Room := { frames := 0, cells := 0, slots := 0, locals := 0 }
theorem k_X1_howMany_1 : Cond.fieldLink RX1 33 "IronedQuarrels$Heap" "size" "I" ∈ wsX1_howMany := List.mem_of_getElem? (i := 1) (by decide +kernel)
theorem hi_X1_howMany_X1 : ∀ w ∈ wsX10, w ∈ wsX1_howMany := fun w h => List.mem_cons_of_mem _ (List.mem_append_right _ h)
set_option maxHeartbeats 4000000 in
set_option maxRecDepth 100000 in
theorem c_X1_howMany (l : Launch) (D : va_G) (ca : Nat → ClassId) (a : Nat → Nat) (kinds : Nat → Int32) (whos : Nat → Int32) (toWhoms : Nat → Int32) (topics : Nat → Int32) (weights : Nat → Int32) (answered : Nat → Int32) (deeds : Nat → Int32) (size : Int32) (saidBits : Int32) (deedCount : Int32)  (post : Int32 → Prop) (h : wp_X1_howMany size post) : Met l yX1_howMany wsX1_howMany rm_X1_howMany (PcX D ca [.ref (a 0)] (W_X1 ca a kinds whos toWhoms topics weights answered deeds size saidBits deedCount)) (rdI post) 0 0 (fun _ => False) := by
  refine Met.ofW (cc := cX1_howMany) (maxL := 1) (ret := (some .int)) (by decide) rfl ?_
  intro zp ze zs zm za zb zt zc z1 B hml hv
  obtain ⟨rfl, hP, hK⟩ := hv
  have hx := B.exec
  have hb := B.bytes
  have hr := B.returns
  have hts := atoms_spec (ws := wsX1_howMany) B.pre
  have hown : zs.vm.findClass RX1 = some zm.cls := findClass_of_methodNamed B.named
  have hlocks := B.notSynchronized
  have hl := lv_entry ([.ref (a 0)]) (n := 1) (Nat.le_of_ble_eq_true rfl)
  rw [lg_entry_eq]
  generalize (lg_sl ([.ref (a 0)]) ++ List.replicate (1 - (lg_sl ([.ref (a 0)])).length) Slot.unset).toArray = ls at hl ⊢
  replace hl : lv_has ls 1 [(0, .ref (a 0))] := hl
  show W zp l ze rm_X1_howMany zs zm ([.ref (a 0)] : List Value).toArray zb zt zc zs.heap [] 0 0 (MQ zb (rdI post) ([.ref (a 0)] : List Value).toArray zs 0 0 (fun _ => False)) (F0 zm 0 ls [])
  unfold wp_X1_howMany at h
  refine lv_aload_n hx hb dX1_howMany_0 rfl (lv_at hl 0 rfl) ?_
  refine va_get (D := D) (ci := 1) (v := .int size) (C := RX1) (T := TX1) (N := 10) hx hb hts hi_X1_howMany_X1 hown hK.1 hP 0 rfl rfl 7 (by decide) (hts _ k_X1_howMany_1) (fun _ h9 => h9) rfl dX1_howMany_1 ?_
  exact W.iret (v := size) hx hb hr (fun t ht hW => ⟨size, rfl, h, ht⟩) (fun q hq => absurd hq List.not_mem_nil) dX1_howMany_4

-- IronedQuarrels$Heap.holders(I)I
def wp_X1_holders (kinds : Nat → Int32) (answered : Nat → Int32) (size : Int32) (i : Int32) (post : Int32 → Prop) : Prop :=
  vp_in i 12 ∧ (¬ (kinds i.toNatClampNeg) = (4 : Int32) → (wp_X1_answerers answered size i (fun r1 => post r1))) ∧ ((kinds i.toNatClampNeg) = (4 : Int32) → (post (0 : Int32)))
def rm_X1_holders : Room := { frames := 2, cells := 0, slots := 0, locals := 43 }
theorem k_X1_holders_1 : Cond.fieldLink RX1 9 "IronedQuarrels$Heap" "kinds" "[I" ∈ wsX1_holders := List.mem_of_getElem? (i := 1) (by decide +kernel)
theorem hi_X1_holders_X1 : ∀ w ∈ wsX10, w ∈ wsX1_holders := fun w h => List.mem_cons_of_mem _ (List.mem_append_right _ h)
set_option maxHeartbeats 4000000 in
set_option maxRecDepth 100000 in
theorem c_X1_holders (l : Launch) (D : va_G) (ca : Nat → ClassId) (a : Nat → Nat) (kinds : Nat → Int32) (whos : Nat → Int32) (toWhoms : Nat → Int32) (topics : Nat → Int32) (weights : Nat → Int32) (answered : Nat → Int32) (deeds : Nat → Int32) (size : Int32) (saidBits : Int32) (deedCount : Int32) (i : Int32) (post : Int32 → Prop) (h : wp_X1_holders kinds answered size i post) : Met l yX1_holders wsX1_holders rm_X1_holders (PcX D ca [.ref (a 0), .int i] (W_X1 ca a kinds whos toWhoms topics weights answered deeds size saidBits deedCount)) (rdI post) 0 0 (fun _ => False) := by
  refine Met.ofW (cc := cX1_holders) (maxL := 2) (ret := (some .int)) (by decide) rfl ?_
  intro zp ze zs zm za zb zt zc z1 B hml hv
  obtain ⟨rfl, hP, hK⟩ := hv
  have hx := B.exec
  have hb := B.bytes
  have hr := B.returns
  have hts := atoms_spec (ws := wsX1_holders) B.pre
  have hown : zs.vm.findClass RX1 = some zm.cls := findClass_of_methodNamed B.named
  have hlocks := B.notSynchronized
  have hl := lv_entry ([.ref (a 0), .int i]) (n := 2) (Nat.le_of_ble_eq_true rfl)
  rw [lg_entry_eq]
  generalize (lg_sl ([.ref (a 0), .int i]) ++ List.replicate (2 - (lg_sl ([.ref (a 0), .int i])).length) Slot.unset).toArray = ls at hl ⊢
  replace hl : lv_has ls 2 [(0, .ref (a 0)), (1, .int i)] := hl
  show W zp l ze rm_X1_holders zs zm ([.ref (a 0), .int i] : List Value).toArray zb zt zc zs.heap [] 0 0 (MQ zb (rdI post) ([.ref (a 0), .int i] : List Value).toArray zs 0 0 (fun _ => False)) (F0 zm 0 ls [])
  unfold wp_X1_holders at h
  refine lv_aload_n hx hb dX1_holders_0 rfl (lv_at hl 0 rfl) ?_
  refine va_get (D := D) (ci := 1) (v := .ref (a 1)) (C := RX1) (T := TX1) (N := 10) hx hb hts hi_X1_holders_X1 hown hK.1 hP 0 rfl rfl 0 (by decide) (hts _ k_X1_holders_1) (fun _ h9 => h9) rfl dX1_holders_1 ?_
  refine lv_iload_n hx hb dX1_holders_4 rfl (lv_at hl 1 rfl) ?_
  obtain ⟨hi, h⟩ := h
  refine x_iald (v := kinds i.toNatClampNeg) hx hb hK hP 1 rfl hi rfl dX1_holders_5 ?_
  refine lv_iconst (v := (4)) hx hb dX1_holders_6 (by decide) ?_
  refine lv_icmp_ne (tgt := 14) hx hb dX1_holders_7 (by decide) (fun hc => ?_) (fun hc => ?_)
  · have h := h.1 hc
    refine lv_aload_n hx hb dX1_holders_14 rfl (lv_at hl 0 rfl) ?_
    refine lv_iload_n hx hb dX1_holders_15 rfl (lv_at hl 1 rfl) ?_
    refine rd_calli (va_runV (As := [.int i]) (rest := []) ⟨hx, hb, hml, hown, hts⟩ (c_X1_answerers l D ca a kinds whos toWhoms topics weights answered deeds size saidBits deedCount i _ h) (cwV 1 hts gX1_holders_X1_answerers rfl rfl rfl (by decide +kernel) ⟨Nat.le_of_ble_eq_true rfl, Nat.le_of_ble_eq_true rfl⟩) (PcX.preV (q := (RX1, TX1, 10)) (ci := 1) (q0 := 0) hK hP rfl rfl hP) rfl rfl hl.1 rfl (lv_room (Nat.le_of_ble_eq_true rfl)) dX1_holders_16 ⟨Nat.le_of_ble_eq_true rfl, Nat.le_of_ble_eq_true rfl⟩) (fun r1 h => ?_)
    try dsimp only at h
    exact W.iret (v := r1) hx hb hr (fun t ht hW => ⟨r1, rfl, h, ht⟩) (fun q hq => absurd hq List.not_mem_nil) dX1_holders_19
  · have h := h.2 hc
    refine lv_iconst (v := (0)) hx hb dX1_holders_10 (by decide) ?_
    refine lv_goto (tgt := 19) hx hb dX1_holders_11 (by decide) ?_
    exact W.iret (v := (0 : Int32)) hx hb hr (fun t ht hW => ⟨(0 : Int32), rfl, h, ht⟩) (fun q hq => absurd hq List.not_mem_nil) dX1_holders_19

-- IronedQuarrels$Heap.mayGo(II)Z
def wp_X1_mayGo (kinds : Nat → Int32) (answered : Nat → Int32) (size : Int32) (i : Int32) (bits : Int32) (post : Int32 → Prop) : Prop :=
  wp_X7_hasBit bits i (fun r1 => (r1 = 0 → (post (0 : Int32))) ∧ (¬ r1 = 0 → (wp_X1_holders kinds answered size i (fun r2 => (¬ (r2 &&& bits) = 0 → (post (0 : Int32))) ∧ ((r2 &&& bits) = 0 → (post (1 : Int32)))))))
def rm_X1_mayGo : Room := { frames := 3, cells := 0, slots := 0, locals := 64 }
theorem k_X1_mayGo_1 : Cond.static yX7_hasBit ∈ wsX1_mayGo := List.mem_of_getElem? (i := 1) (by decide +kernel)
theorem k_X1_mayGo_2 : Cond.initialized RX7 ∈ wsX1_mayGo := List.mem_of_getElem? (i := 2) (by decide +kernel)
theorem hi_X1_mayGo_X1 : ∀ w ∈ wsX10, w ∈ wsX1_mayGo := fun w h => List.mem_cons_of_mem _ (List.mem_append_right _ h)
set_option maxHeartbeats 4000000 in
set_option maxRecDepth 100000 in
theorem c_X1_mayGo (l : Launch) (D : va_G) (ca : Nat → ClassId) (a : Nat → Nat) (kinds : Nat → Int32) (whos : Nat → Int32) (toWhoms : Nat → Int32) (topics : Nat → Int32) (weights : Nat → Int32) (answered : Nat → Int32) (deeds : Nat → Int32) (size : Int32) (saidBits : Int32) (deedCount : Int32) (i : Int32) (bits : Int32) (post : Int32 → Prop) (h : wp_X1_mayGo kinds answered size i bits post) : Met l yX1_mayGo wsX1_mayGo rm_X1_mayGo (PcX D ca [.ref (a 0), .int i, .int bits] (W_X1 ca a kinds whos toWhoms topics weights answered deeds size saidBits deedCount)) (rdZ post) 0 0 (fun _ => False) := by
  refine Met.ofW (cc := cX1_mayGo) (maxL := 3) (ret := (some .boolean)) (by decide) rfl ?_
  intro zp ze zs zm za zb zt zc z1 B hml hv
  obtain ⟨rfl, hP, hK⟩ := hv
  have hx := B.exec
  have hb := B.bytes
  have hr := B.returns
  have hts := atoms_spec (ws := wsX1_mayGo) B.pre
  have hown : zs.vm.findClass RX1 = some zm.cls := findClass_of_methodNamed B.named
  have hlocks := B.notSynchronized
  have hl := lv_entry ([.ref (a 0), .int i, .int bits]) (n := 3) (Nat.le_of_ble_eq_true rfl)
  rw [lg_entry_eq]
  generalize (lg_sl ([.ref (a 0), .int i, .int bits]) ++ List.replicate (3 - (lg_sl ([.ref (a 0), .int i, .int bits])).length) Slot.unset).toArray = ls at hl ⊢
  replace hl : lv_has ls 3 [(0, .ref (a 0)), (1, .int i), (2, .int bits)] := hl
  show W zp l ze rm_X1_mayGo zs zm ([.ref (a 0), .int i, .int bits] : List Value).toArray zb zt zc zs.heap [] 0 0 (MQ zb (rdZ post) ([.ref (a 0), .int i, .int bits] : List Value).toArray zs 0 0 (fun _ => False)) (F0 zm 0 ls [])
  unfold wp_X1_mayGo at h
  refine lv_iload_n hx hb dX1_mayGo_0 rfl (lv_at hl 2 rfl) ?_
  refine lv_iload_n hx hb dX1_mayGo_1 rfl (lv_at hl 1 rfl) ?_
  refine rd_callz (va_runSN (As := [.int bits, .int i]) (rest := []) ⟨hx, hb, hml, hown, hts⟩ (c_X7_hasBit l D ca   bits i _ h) ⟨va_cnB 2 hts gX1_mayGo_X7_hasBit_n57 rfl rfl rfl (hK.2 (RX1, 57, yX7_hasBit, "IronedQuarrels") (List.mem_of_getElem? (i := 6) rfl)) (hts _ k_X1_mayGo_2) (by decide +kernel) ⟨Nat.le_of_ble_eq_true rfl, Nat.le_of_ble_eq_true rfl⟩, hts _ k_X1_mayGo_1, trivial⟩ (PcX.preS hK (fun k q h => by simp at h)) rfl rfl hl.1 rfl (lv_room (Nat.le_of_ble_eq_true rfl)) dX1_mayGo_2 ⟨Nat.le_of_ble_eq_true rfl, Nat.le_of_ble_eq_true rfl⟩) (fun r1 h hz_r1 => ?_)
  try dsimp only at h
  refine lv_if_eq (tgt := 22) hx hb dX1_mayGo_5 (by decide) (fun hc => ?_) (fun hc => ?_)
  · have h := h.1 hc
    refine lv_iconst (v := (0)) hx hb dX1_mayGo_22 (by decide) ?_
    exact W.zret (v := (0 : Int32)) hx hb hr nar0 (fun t ht hW => ⟨(0 : Int32), rfl, ⟨h, nar0⟩, ht⟩) (fun q hq => absurd hq List.not_mem_nil) dX1_mayGo_23
  · have h := h.2 hc
    refine lv_aload_n hx hb dX1_mayGo_8 rfl (lv_at hl 0 rfl) ?_
    refine lv_iload_n hx hb dX1_mayGo_9 rfl (lv_at hl 1 rfl) ?_
    refine rd_calli (va_runV (As := [.int i]) (rest := []) ⟨hx, hb, hml, hown, hts⟩ (c_X1_holders l D ca a kinds whos toWhoms topics weights answered deeds size saidBits deedCount i _ h) (cwV 1 hts gX1_mayGo_X1_holders rfl rfl rfl (by decide +kernel) ⟨Nat.le_of_ble_eq_true rfl, Nat.le_of_ble_eq_true rfl⟩) (PcX.preV (q := (RX1, TX1, 10)) (ci := 1) (q0 := 0) hK hP rfl rfl hP) rfl rfl hl.1 rfl (lv_room (Nat.le_of_ble_eq_true rfl)) dX1_mayGo_10 ⟨Nat.le_of_ble_eq_true rfl, Nat.le_of_ble_eq_true rfl⟩) (fun r2 h => ?_)
    try dsimp only at h
    refine lv_iload_n hx hb dX1_mayGo_13 rfl (lv_at hl 2 rfl) ?_
    refine lv_iand hx hb dX1_mayGo_14 ?_
    refine lv_if_ne (tgt := 22) hx hb dX1_mayGo_15 (by decide) (fun hc => ?_) (fun hc => ?_)
    · have h := h.1 hc
      refine lv_iconst (v := (0)) hx hb dX1_mayGo_22 (by decide) ?_
      exact W.zret (v := (0 : Int32)) hx hb hr nar0 (fun t ht hW => ⟨(0 : Int32), rfl, ⟨h, nar0⟩, ht⟩) (fun q hq => absurd hq List.not_mem_nil) dX1_mayGo_23
    · have h := h.2 hc
      refine lv_iconst (v := (1)) hx hb dX1_mayGo_18 (by decide) ?_
      refine lv_goto (tgt := 23) hx hb dX1_mayGo_19 (by decide) ?_
      exact W.zret (v := (1 : Int32)) hx hb hr nar1 (fun t ht hW => ⟨(1 : Int32), rfl, ⟨h, nar1⟩, ht⟩) (fun q hq => absurd hq List.not_mem_nil) dX1_mayGo_23

-- IronedQuarrels$Heap.takeBack(I)I
def wp_X1_takeBack (kinds : Nat → Int32) (whos : Nat → Int32) (toWhoms : Nat → Int32) (topics : Nat → Int32) (weights : Nat → Int32) (deeds : Nat → Int32) (size : Int32) (saidBits : Int32) (deedCount : Int32) (i : Int32) (post : Int32 → (Nat → Int32) → (Int32) → (Int32) → Prop) : Prop :=
  wp_X1_hasNumber size i (fun r1 => (¬ r1 = 0 → (wp_X1_priceNow kinds whos toWhoms topics weights size saidBits i (fun r2 => wp_X7_bit i (fun r3 => wp_X1_noteDeed deeds deedCount i (fun deeds_4 deedCount_5 => post r2 deeds_4 (saidBits &&& (r3 ^^^ (-1 : Int32))) deedCount_5))))) ∧ (r1 = 0 → (post (0 : Int32) deeds saidBits deedCount)))
def rm_X1_takeBack : Room := { frames := 5, cells := 0, slots := 0, locals := 108 }
theorem k_X1_takeBack_1 : Cond.fieldLink RX1 37 "IronedQuarrels$Heap" "saidBits" "I" ∈ wsX1_takeBack := List.mem_of_getElem? (i := 1) (by decide +kernel)
theorem k_X1_takeBack_26 : Cond.static yX7_bit ∈ wsX1_takeBack := List.mem_of_getElem? (i := 26) (by decide +kernel)
theorem k_X1_takeBack_27 : Cond.initialized RX7 ∈ wsX1_takeBack := List.mem_of_getElem? (i := 27) (by decide +kernel)
theorem hi_X1_takeBack_X1 : ∀ w ∈ wsX10, w ∈ wsX1_takeBack := fun w h => List.mem_cons_of_mem _ (List.mem_append_right _ h)
set_option maxHeartbeats 4000000 in
set_option maxRecDepth 100000 in
theorem c_X1_takeBack (l : Launch) (D : va_G) (ca : Nat → ClassId) (a : Nat → Nat) (kinds : Nat → Int32) (whos : Nat → Int32) (toWhoms : Nat → Int32) (topics : Nat → Int32) (weights : Nat → Int32) (answered : Nat → Int32) (deeds : Nat → Int32) (size : Int32) (saidBits : Int32) (deedCount : Int32) (i : Int32) (post : Int32 → (Nat → Int32) → (Int32) → (Int32) → Prop) (hd : va_D (fun _ => True) (W_X1 ca a kinds whos toWhoms topics weights answered deeds size saidBits deedCount)) (h : wp_X1_takeBack kinds whos toWhoms topics weights deeds size saidBits deedCount i post) : Met l yX1_takeBack wsX1_takeBack rm_X1_takeBack (PcX D ca [.ref (a 0), .int i] (W_X1 ca a kinds whos toWhoms topics weights answered deeds size saidBits deedCount)) (wrI (S := (Nat → Int32) × (Int32) × (Int32)) D (W_X1 ca a kinds whos toWhoms topics weights answered deeds size saidBits deedCount) (fun u => W_X1 ca a kinds whos toWhoms topics weights answered u.1 size u.2.1 u.2.2) (fun r u => post r u.1 u.2.1 u.2.2)) 0 0 (adr (W_X1 ca a kinds whos toWhoms topics weights answered deeds size saidBits deedCount)) := by
  refine Met.ofW (cc := cX1_takeBack) (maxL := 3) (ret := (some .int)) (by decide) rfl ?_
  intro zp ze zs zm za zb zt zc z1 B hml hv
  obtain ⟨rfl, hP, hK⟩ := hv
  have hx := B.exec
  have hb := B.bytes
  have hr := B.returns
  have hts := atoms_spec (ws := wsX1_takeBack) B.pre
  have hown : zs.vm.findClass RX1 = some zm.cls := findClass_of_methodNamed B.named
  have hlocks := B.notSynchronized
  have hD : va_D (adr (W_X1 ca a kinds whos toWhoms topics weights answered deeds size saidBits deedCount)) (W_X1 ca a kinds whos toWhoms topics weights answered deeds size saidBits deedCount) := hd.adr
  have hS : va_S (adr (W_X1 ca a kinds whos toWhoms topics weights answered deeds size saidBits deedCount)) zs.heap zs.heap [] := va_S.rf
  have hl := lv_entry ([.ref (a 0), .int i]) (n := 3) (Nat.le_of_ble_eq_true rfl)
  rw [lg_entry_eq]
  generalize (lg_sl ([.ref (a 0), .int i]) ++ List.replicate (3 - (lg_sl ([.ref (a 0), .int i])).length) Slot.unset).toArray = ls at hl ⊢
  replace hl : lv_has ls 3 [(0, .ref (a 0)), (1, .int i)] := hl
  show W zp l ze rm_X1_takeBack zs zm ([.ref (a 0), .int i] : List Value).toArray zb zt zc zs.heap [] 0 0 (MQ zb (wrI (S := (Nat → Int32) × (Int32) × (Int32)) D (W_X1 ca a kinds whos toWhoms topics weights answered deeds size saidBits deedCount) (fun u => W_X1 ca a kinds whos toWhoms topics weights answered u.1 size u.2.1 u.2.2) (fun r u => post r u.1 u.2.1 u.2.2)) ([.ref (a 0), .int i] : List Value).toArray zs 0 0 (adr (W_X1 ca a kinds whos toWhoms topics weights answered deeds size saidBits deedCount))) (F0 zm 0 ls [])
  unfold wp_X1_takeBack at h
  refine lv_aload_n hx hb dX1_takeBack_0 rfl (lv_at hl 0 rfl) ?_
  refine lv_iload_n hx hb dX1_takeBack_1 rfl (lv_at hl 1 rfl) ?_
  refine rd_callz (va_runV (As := [.int i]) (rest := []) ⟨hx, hb, hml, hown, hts⟩ (c_X1_hasNumber l D ca a kinds whos toWhoms topics weights answered deeds size saidBits deedCount i _ h) (cwV 1 hts gX1_takeBack_X1_hasNumber rfl rfl rfl (by decide +kernel) ⟨Nat.le_of_ble_eq_true rfl, Nat.le_of_ble_eq_true rfl⟩) (PcX.preV (q := (RX1, TX1, 10)) (ci := 1) (q0 := 0) hK hP rfl rfl hP) rfl rfl hl.1 rfl (lv_room (Nat.le_of_ble_eq_true rfl)) dX1_takeBack_2 ⟨Nat.le_of_ble_eq_true rfl, Nat.le_of_ble_eq_true rfl⟩) (fun r1 h hz_r1 => ?_)
  try dsimp only at h
  refine lv_if_ne (tgt := 10) hx hb dX1_takeBack_5 (by decide) (fun hc => ?_) (fun hc => ?_)
  · have h := h.1 hc
    refine lv_aload_n hx hb dX1_takeBack_10 rfl (lv_at hl 0 rfl) ?_
    refine lv_iload_n hx hb dX1_takeBack_11 rfl (lv_at hl 1 rfl) ?_
    refine rd_calli (va_runV (As := [.int i]) (rest := []) ⟨hx, hb, hml, hown, hts⟩ (c_X1_priceNow l D ca a kinds whos toWhoms topics weights answered deeds size saidBits deedCount i _ h) (cwV 1 hts gX1_takeBack_X1_priceNow rfl rfl rfl (by decide +kernel) ⟨Nat.le_of_ble_eq_true rfl, Nat.le_of_ble_eq_true rfl⟩) (PcX.preV (q := (RX1, TX1, 10)) (ci := 1) (q0 := 0) hK hP rfl rfl hP) rfl rfl hl.1 rfl (lv_room (Nat.le_of_ble_eq_true rfl)) dX1_takeBack_12 ⟨Nat.le_of_ble_eq_true rfl, Nat.le_of_ble_eq_true rfl⟩) (fun r2 h => ?_)
    try dsimp only at h
    refine lv_istore_n (lv' := [(2, .int r2), (0, .ref (a 0)), (1, .int i)]) hx hb dX1_takeBack_15 rfl hl (by decide) rfl (fun ls hl => ?_)
    refine lv_aload_n hx hb dX1_takeBack_16 rfl (lv_at hl 1 rfl) ?_
    refine lv_dup hx hb dX1_takeBack_17 rfl ?_
    refine va_get (D := D) (ci := 1) (v := .int saidBits) (C := RX1) (T := TX1) (N := 10) hx hb hts hi_X1_takeBack_X1 hown hK.1 hP 0 rfl rfl 8 (by decide) (hts _ k_X1_takeBack_1) (fun _ h9 => h9) rfl dX1_takeBack_18 ?_
    refine lv_iload_n hx hb dX1_takeBack_21 rfl (lv_at hl 2 rfl) ?_
    refine rd_calli (va_runSN (As := [.int i]) (rest := [.int saidBits, .ref (a 0)]) ⟨hx, hb, hml, hown, hts⟩ (c_X7_bit l D ca   i _ h) ⟨va_cnB 1 hts gX1_takeBack_X7_bit_n53 rfl rfl rfl (hK.2 (RX1, 53, yX7_bit, "IronedQuarrels") (List.mem_of_getElem? (i := 5) rfl)) (hts _ k_X1_takeBack_27) (by decide +kernel) ⟨Nat.le_of_ble_eq_true rfl, Nat.le_of_ble_eq_true rfl⟩, hts _ k_X1_takeBack_26, trivial⟩ (PcX.preS hK (fun k q h => by simp at h)) rfl rfl hl.1 rfl (lv_room (Nat.le_of_ble_eq_true rfl)) dX1_takeBack_22 ⟨Nat.le_of_ble_eq_true rfl, Nat.le_of_ble_eq_true rfl⟩) (fun r3 h => ?_)
    try dsimp only at h
    refine lv_iconst (v := (-1)) hx hb dX1_takeBack_25 (by decide) ?_
    refine lv_ixor hx hb dX1_takeBack_26 ?_
    refine lv_iand hx hb dX1_takeBack_27 ?_
    refine va_put (D := D) (ci := 1) (v := .int (saidBits &&& (r3 ^^^ (-1 : Int32)))) (ty := .int) (C := RX1) (T := TX1) (N := 10) hx hb hts hi_X1_takeBack_X1 tyX1 tyX1_ok nmX1 hown hK.1 hP hD hS 0 rfl rfl 8 (by decide) (hts _ k_X1_takeBack_1) (fun _ h9 => h9) rfl (by decide +kernel) rfl rfl (Nat.le_of_ble_eq_true rfl) dX1_takeBack_28 (fun H locs hP hD hS => ?_)
    have hP : va_P D vwCl (W_X1 ca a kinds whos toWhoms topics weights answered deeds size (saidBits &&& (r3 ^^^ (-1 : Int32))) deedCount) H := hP
    have hD : va_D _ (W_X1 ca a kinds whos toWhoms topics weights answered deeds size (saidBits &&& (r3 ^^^ (-1 : Int32))) deedCount) := hD
    refine lv_aload_n hx hb dX1_takeBack_31 rfl (lv_at hl 1 rfl) ?_
    refine lv_iload_n hx hb dX1_takeBack_32 rfl (lv_at hl 2 rfl) ?_
    refine wr_callv (ws1 := fun u => W_X1 ca a kinds whos toWhoms topics weights answered u.1 size (saidBits &&& (r3 ^^^ (-1 : Int32))) u.2) (wr := ([] : List Nat).filterMap (fun i => (W_X1 ca a kinds whos toWhoms topics weights answered deeds size (saidBits &&& (r3 ^^^ (-1 : Int32))) deedCount : va_W)[i]?)) (n := 8) (va_runV (As := [.int i]) (rest := []) ⟨hx, hb, hml, hown, hts⟩ (c_X1_noteDeed l D ca a kinds whos toWhoms topics weights answered deeds size (saidBits &&& (r3 ^^^ (-1 : Int32))) deedCount i _ (hD.subM [0, 1, 2, 3, 4, 5, 6, 7] (by decide) rfl) h) (cwV 1 hts gX1_takeBack_X1_noteDeed rfl rfl rfl (by decide +kernel) ⟨Nat.le_of_ble_eq_true rfl, Nat.le_of_ble_eq_true rfl⟩) (PcX.preV (q := (RX1, TX1, 10)) (ci := 1) (q0 := 0) hK hP rfl rfl hP) rfl rfl hl.1 rfl (lv_room (Nat.le_of_ble_eq_true rfl)) dX1_takeBack_33 ⟨Nat.le_of_ble_eq_true rfl, Nat.le_of_ble_eq_true rfl⟩) hP hD hS [0, 1, 2, 3, 4, 5, 6, 7] [] rfl (fun _ => rfl) rfl (fun _ => rfl) (fun _ => rfl) (fun _ => rfl) (by decide +kernel) (by decide +kernel) (fun u H locs h hP hD hS => ?_)
    obtain ⟨deeds_4, deedCount_5⟩ := u
    have hP : va_P D vwCl (W_X1 ca a kinds whos toWhoms topics weights answered deeds_4 size (saidBits &&& (r3 ^^^ (-1 : Int32))) deedCount_5) H := hP
    have hD : va_D _ (W_X1 ca a kinds whos toWhoms topics weights answered deeds_4 size (saidBits &&& (r3 ^^^ (-1 : Int32))) deedCount_5) := hD
    try dsimp only at h
    refine lv_iload_n hx hb dX1_takeBack_36 rfl (lv_at hl 0 rfl) ?_
    exact W.iret (v := r2) hx hb hr (fun t ht hW => ⟨⟨r2, (deeds_4, saidBits &&& (r3 ^^^ (-1 : Int32)), deedCount_5), rfl, h, by rw [ht]; exact hP⟩, hS.F ht⟩) hS.2.2 dX1_takeBack_37
  · have h := h.2 hc
    refine lv_iconst (v := (0)) hx hb dX1_takeBack_8 (by decide) ?_
    exact W.iret (v := (0 : Int32)) hx hb hr (fun t ht hW => ⟨⟨(0 : Int32), (deeds, saidBits, deedCount), rfl, h, by rw [ht]; exact hP⟩, hS.F ht⟩) hS.2.2 dX1_takeBack_9

-- IronedQuarrels$Heap.howManyDeeds()I
def wp_X1_howManyDeeds (deedCount : Int32) (post : Int32 → Prop) : Prop :=
  post deedCount
def rm_X1_howManyDeeds : Room := { frames := 0, cells := 0, slots := 0, locals := 0 }
theorem k_X1_howManyDeeds_1 : Cond.fieldLink RX1 40 "IronedQuarrels$Heap" "deedCount" "I" ∈ wsX1_howManyDeeds := List.mem_of_getElem? (i := 1) (by decide +kernel)
theorem hi_X1_howManyDeeds_X1 : ∀ w ∈ wsX10, w ∈ wsX1_howManyDeeds := fun w h => List.mem_cons_of_mem _ (List.mem_append_right _ h)
set_option maxHeartbeats 4000000 in
set_option maxRecDepth 100000 in
theorem c_X1_howManyDeeds (l : Launch) (D : va_G) (ca : Nat → ClassId) (a : Nat → Nat) (kinds : Nat → Int32) (whos : Nat → Int32) (toWhoms : Nat → Int32) (topics : Nat → Int32) (weights : Nat → Int32) (answered : Nat → Int32) (deeds : Nat → Int32) (size : Int32) (saidBits : Int32) (deedCount : Int32)  (post : Int32 → Prop) (h : wp_X1_howManyDeeds deedCount post) : Met l yX1_howManyDeeds wsX1_howManyDeeds rm_X1_howManyDeeds (PcX D ca [.ref (a 0)] (W_X1 ca a kinds whos toWhoms topics weights answered deeds size saidBits deedCount)) (rdI post) 0 0 (fun _ => False) := by
  refine Met.ofW (cc := cX1_howManyDeeds) (maxL := 1) (ret := (some .int)) (by decide) rfl ?_
  intro zp ze zs zm za zb zt zc z1 B hml hv
  obtain ⟨rfl, hP, hK⟩ := hv
  have hx := B.exec
  have hb := B.bytes
  have hr := B.returns
  have hts := atoms_spec (ws := wsX1_howManyDeeds) B.pre
  have hown : zs.vm.findClass RX1 = some zm.cls := findClass_of_methodNamed B.named
  have hlocks := B.notSynchronized
  have hl := lv_entry ([.ref (a 0)]) (n := 1) (Nat.le_of_ble_eq_true rfl)
  rw [lg_entry_eq]
  generalize (lg_sl ([.ref (a 0)]) ++ List.replicate (1 - (lg_sl ([.ref (a 0)])).length) Slot.unset).toArray = ls at hl ⊢
  replace hl : lv_has ls 1 [(0, .ref (a 0))] := hl
  show W zp l ze rm_X1_howManyDeeds zs zm ([.ref (a 0)] : List Value).toArray zb zt zc zs.heap [] 0 0 (MQ zb (rdI post) ([.ref (a 0)] : List Value).toArray zs 0 0 (fun _ => False)) (F0 zm 0 ls [])
  unfold wp_X1_howManyDeeds at h
  refine lv_aload_n hx hb dX1_howManyDeeds_0 rfl (lv_at hl 0 rfl) ?_
  refine va_get (D := D) (ci := 1) (v := .int deedCount) (C := RX1) (T := TX1) (N := 10) hx hb hts hi_X1_howManyDeeds_X1 hown hK.1 hP 0 rfl rfl 9 (by decide) (hts _ k_X1_howManyDeeds_1) (fun _ h9 => h9) rfl dX1_howManyDeeds_1 ?_
  exact W.iret (v := deedCount) hx hb hr (fun t ht hW => ⟨deedCount, rfl, h, ht⟩) (fun q hq => absurd hq List.not_mem_nil) dX1_howManyDeeds_4

-- IronedQuarrels$Heap.undoFrom(I)V
def wb_X1_undoFrom_7 (deeds : Nat → Int32) (n : Int32) (post : (Int32) → (Int32) → (Int32) → Prop) (K7 : (Int32) → (Int32) → (Int32) → (Int32) → Prop) (size : Int32) (saidBits : Int32) (deedCount : Int32) (x2 : Int32) : Prop :=
  (x2 < n → (post size saidBits n)) ∧ (¬ x2 < n → (vp_in x2 40 ∧ (¬ (deeds x2.toNatClampNeg) = (-1 : Int32) → (vp_in x2 40 ∧ wp_X7_bit (deeds x2.toNatClampNeg) (fun r1 => K7 size (saidBits ||| r1) deedCount (x2 + (-1))))) ∧ ((deeds x2.toNatClampNeg) = (-1 : Int32) → (wp_X7_bit (size - (1 : Int32)) (fun r2 => K7 (size - (1 : Int32)) (saidBits &&& (r2 ^^^ (-1 : Int32))) deedCount (x2 + (-1)))))))
def wl_X1_undoFrom_7 (deeds : Nat → Int32) (n : Int32) (post : (Int32) → (Int32) → (Int32) → Prop) : Nat → (Int32) → (Int32) → (Int32) → (Int32) → Prop
  | 0 => fun _ _ _ _ => False
  | zn + 1 => wb_X1_undoFrom_7 deeds n post (wl_X1_undoFrom_7 deeds n post zn)
def wp_X1_undoFrom (deeds : Nat → Int32) (size : Int32) (saidBits : Int32) (deedCount : Int32) (n : Int32) (post : (Int32) → (Int32) → (Int32) → Prop) : Prop :=
  ∃ zn, wl_X1_undoFrom_7 deeds n post zn size saidBits deedCount (deedCount - (1 : Int32))
def rm_X1_undoFrom : Room := { frames := 1, cells := 0, slots := 0, locals := 20 }
theorem k_X1_undoFrom_1 : Cond.fieldLink RX1 40 "IronedQuarrels$Heap" "deedCount" "I" ∈ wsX1_undoFrom := List.mem_of_getElem? (i := 1) (by decide +kernel)
theorem k_X1_undoFrom_2 : Cond.fieldLink RX1 30 "IronedQuarrels$Heap" "deeds" "[I" ∈ wsX1_undoFrom := List.mem_of_getElem? (i := 2) (by decide +kernel)
theorem k_X1_undoFrom_3 : Cond.fieldLink RX1 33 "IronedQuarrels$Heap" "size" "I" ∈ wsX1_undoFrom := List.mem_of_getElem? (i := 3) (by decide +kernel)
theorem k_X1_undoFrom_4 : Cond.fieldLink RX1 37 "IronedQuarrels$Heap" "saidBits" "I" ∈ wsX1_undoFrom := List.mem_of_getElem? (i := 4) (by decide +kernel)
theorem k_X1_undoFrom_5 : Cond.static yX7_bit ∈ wsX1_undoFrom := List.mem_of_getElem? (i := 5) (by decide +kernel)
theorem k_X1_undoFrom_6 : Cond.initialized RX7 ∈ wsX1_undoFrom := List.mem_of_getElem? (i := 6) (by decide +kernel)
theorem hi_X1_undoFrom_X1 : ∀ w ∈ wsX10, w ∈ wsX1_undoFrom := fun w h => List.mem_cons_of_mem _ (List.mem_append_right _ h)
set_option maxHeartbeats 4000000 in
set_option maxRecDepth 100000 in
theorem c_X1_undoFrom (l : Launch) (D : va_G) (ca : Nat → ClassId) (a : Nat → Nat) (kinds : Nat → Int32) (whos : Nat → Int32) (toWhoms : Nat → Int32) (topics : Nat → Int32) (weights : Nat → Int32) (answered : Nat → Int32) (deeds : Nat → Int32) (size : Int32) (saidBits : Int32) (deedCount : Int32) (n : Int32) (post : (Int32) → (Int32) → (Int32) → Prop) (hd : va_D (fun _ => True) (W_X1 ca a kinds whos toWhoms topics weights answered deeds size saidBits deedCount)) (h : wp_X1_undoFrom deeds size saidBits deedCount n post) : Met l yX1_undoFrom wsX1_undoFrom rm_X1_undoFrom (PcX D ca [.ref (a 0), .int n] (W_X1 ca a kinds whos toWhoms topics weights answered deeds size saidBits deedCount)) (wrV (S := (Int32) × (Int32) × (Int32)) D (W_X1 ca a kinds whos toWhoms topics weights answered deeds size saidBits deedCount) (fun u => W_X1 ca a kinds whos toWhoms topics weights answered deeds u.1 u.2.1 u.2.2) (fun u => post u.1 u.2.1 u.2.2)) 0 0 (adr (W_X1 ca a kinds whos toWhoms topics weights answered deeds size saidBits deedCount)) := by
  refine Met.ofW (cc := cX1_undoFrom) (maxL := 3) (ret := none) (by decide) rfl ?_
  intro zp ze zs zm za zb zt zc z1 B hml hv
  obtain ⟨rfl, hP, hK⟩ := hv
  have hx := B.exec
  have hb := B.bytes
  have hr := B.returns
  have hts := atoms_spec (ws := wsX1_undoFrom) B.pre
  have hown : zs.vm.findClass RX1 = some zm.cls := findClass_of_methodNamed B.named
  have hlocks := B.notSynchronized
  have hD : va_D (adr (W_X1 ca a kinds whos toWhoms topics weights answered deeds size saidBits deedCount)) (W_X1 ca a kinds whos toWhoms topics weights answered deeds size saidBits deedCount) := hd.adr
  have hS : va_S (adr (W_X1 ca a kinds whos toWhoms topics weights answered deeds size saidBits deedCount)) zs.heap zs.heap [] := va_S.rf
  have hl := lv_entry ([.ref (a 0), .int n]) (n := 3) (Nat.le_of_ble_eq_true rfl)
  rw [lg_entry_eq]
  generalize (lg_sl ([.ref (a 0), .int n]) ++ List.replicate (3 - (lg_sl ([.ref (a 0), .int n])).length) Slot.unset).toArray = ls at hl ⊢
  replace hl : lv_has ls 3 [(0, .ref (a 0)), (1, .int n)] := hl
  show W zp l ze rm_X1_undoFrom zs zm ([.ref (a 0), .int n] : List Value).toArray zb zt zc zs.heap [] 0 0 (MQ zb (wrV (S := (Int32) × (Int32) × (Int32)) D (W_X1 ca a kinds whos toWhoms topics weights answered deeds size saidBits deedCount) (fun u => W_X1 ca a kinds whos toWhoms topics weights answered deeds u.1 u.2.1 u.2.2) (fun u => post u.1 u.2.1 u.2.2)) ([.ref (a 0), .int n] : List Value).toArray zs 0 0 (adr (W_X1 ca a kinds whos toWhoms topics weights answered deeds size saidBits deedCount))) (F0 zm 0 ls [])
  have w_7 : ∀ (zn : Nat) (size : Int32) (saidBits : Int32) (deedCount : Int32) (x2 : Int32), wl_X1_undoFrom_7 deeds n post zn size saidBits deedCount x2 → ∀ (H : Heap) (locs : List Loc), va_P D vwCl (W_X1 ca a kinds whos toWhoms topics weights answered deeds size saidBits deedCount) H → va_D (adr (W_X1 ca a kinds whos toWhoms topics weights answered deeds size saidBits deedCount)) (W_X1 ca a kinds whos toWhoms topics weights answered deeds size saidBits deedCount) → va_S (adr (W_X1 ca a kinds whos toWhoms topics weights answered deeds size saidBits deedCount)) zs.heap H locs → ∀ ls : Array Slot, lv_has ls 3 [(0, .ref (a 0)), (1, .int n), (2, .int x2)] → W zp l ze rm_X1_undoFrom zs zm ([.ref (a 0), .int n] : List Value).toArray zb zt zc H locs 0 0 (MQ zb (wrV (S := (Int32) × (Int32) × (Int32)) D (W_X1 ca a kinds whos toWhoms topics weights answered deeds size saidBits deedCount) (fun u => W_X1 ca a kinds whos toWhoms topics weights answered deeds u.1 u.2.1 u.2.2) (fun u => post u.1 u.2.1 u.2.2)) ([.ref (a 0), .int n] : List Value).toArray zs 0 0 (adr (W_X1 ca a kinds whos toWhoms topics weights answered deeds size saidBits deedCount))) (F0 zm 7 ls []) := by
    intro zn
    induction zn with
    | zero => intro size saidBits deedCount x2 h; exact h.elim
    | succ zn ih7 =>
      intro size saidBits deedCount x2 h H locs hP hD hS ls hl
      replace h : wb_X1_undoFrom_7 deeds n post (wl_X1_undoFrom_7 deeds n post zn) size saidBits deedCount x2 := h
      unfold wb_X1_undoFrom_7 at h
      refine lv_iload_n hx hb dX1_undoFrom_7 rfl (lv_at hl 2 rfl) ?_
      refine lv_iload_n hx hb dX1_undoFrom_8 rfl (lv_at hl 1 rfl) ?_
      refine lv_icmp_lt (tgt := 77) hx hb dX1_undoFrom_9 (by decide) (fun hc => ?_) (fun hc => ?_)
      · have h := h.1 hc
        refine lv_aload_n hx hb dX1_undoFrom_77 rfl (lv_at hl 0 rfl) ?_
        refine lv_iload_n hx hb dX1_undoFrom_78 rfl (lv_at hl 1 rfl) ?_
        refine va_put (D := D) (ci := 1) (v := .int n) (ty := .int) (C := RX1) (T := TX1) (N := 10) hx hb hts hi_X1_undoFrom_X1 tyX1 tyX1_ok nmX1 hown hK.1 hP hD hS 0 rfl rfl 9 (by decide) (hts _ k_X1_undoFrom_1) (fun _ h9 => h9) rfl (by decide +kernel) rfl rfl (Nat.le_of_ble_eq_true rfl) dX1_undoFrom_79 (fun H locs hP hD hS => ?_)
        have hP : va_P D vwCl (W_X1 ca a kinds whos toWhoms topics weights answered deeds size saidBits n) H := hP
        have hD : va_D _ (W_X1 ca a kinds whos toWhoms topics weights answered deeds size saidBits n) := hD
        exact W.vret hx hb hr (fun t ht hW => ⟨⟨(size, saidBits, n), rfl, h, by rw [ht]; exact hP⟩, hS.F ht⟩) hS.2.2 dX1_undoFrom_82
      · have h := h.2 hc
        refine lv_aload_n hx hb dX1_undoFrom_12 rfl (lv_at hl 0 rfl) ?_
        refine va_get (D := D) (ci := 1) (v := .ref (a 7)) (C := RX1) (T := TX1) (N := 10) hx hb hts hi_X1_undoFrom_X1 hown hK.1 hP 0 rfl rfl 6 (by decide) (hts _ k_X1_undoFrom_2) (fun _ h9 => h9) rfl dX1_undoFrom_13 ?_
        refine lv_iload_n hx hb dX1_undoFrom_16 rfl (lv_at hl 2 rfl) ?_
        obtain ⟨hi, h⟩ := h
        refine x_iald (v := deeds x2.toNatClampNeg) hx hb hK hP 7 rfl hi rfl dX1_undoFrom_17 ?_
        refine lv_iconst (v := (-1)) hx hb dX1_undoFrom_18 (by decide) ?_
        refine lv_icmp_ne (tgt := 53) hx hb dX1_undoFrom_19 (by decide) (fun hc => ?_) (fun hc => ?_)
        · have h := h.1 hc
          refine lv_aload_n hx hb dX1_undoFrom_53 rfl (lv_at hl 0 rfl) ?_
          refine lv_dup hx hb dX1_undoFrom_54 rfl ?_
          refine va_get (D := D) (ci := 1) (v := .int saidBits) (C := RX1) (T := TX1) (N := 10) hx hb hts hi_X1_undoFrom_X1 hown hK.1 hP 0 rfl rfl 8 (by decide) (hts _ k_X1_undoFrom_4) (fun _ h9 => h9) rfl dX1_undoFrom_55 ?_
          refine lv_aload_n hx hb dX1_undoFrom_58 rfl (lv_at hl 0 rfl) ?_
          refine va_get (D := D) (ci := 1) (v := .ref (a 7)) (C := RX1) (T := TX1) (N := 10) hx hb hts hi_X1_undoFrom_X1 hown hK.1 hP 0 rfl rfl 6 (by decide) (hts _ k_X1_undoFrom_2) (fun _ h9 => h9) rfl dX1_undoFrom_59 ?_
          refine lv_iload_n hx hb dX1_undoFrom_62 rfl (lv_at hl 2 rfl) ?_
          obtain ⟨hi, h⟩ := h
          refine x_iald (v := deeds x2.toNatClampNeg) hx hb hK hP 7 rfl hi rfl dX1_undoFrom_63 ?_
          refine rd_calli (va_runSN (As := [.int (deeds x2.toNatClampNeg)]) (rest := [.int saidBits, .ref (a 0)]) ⟨hx, hb, hml, hown, hts⟩ (c_X7_bit l D ca   (deeds x2.toNatClampNeg) _ h) ⟨va_cnB 1 hts gX1_undoFrom_X7_bit_n53 rfl rfl rfl (hK.2 (RX1, 53, yX7_bit, "IronedQuarrels") (List.mem_of_getElem? (i := 5) rfl)) (hts _ k_X1_undoFrom_6) (by decide +kernel) ⟨Nat.le_of_ble_eq_true rfl, Nat.le_of_ble_eq_true rfl⟩, hts _ k_X1_undoFrom_5, trivial⟩ (PcX.preS hK (fun k q h => by simp at h)) rfl rfl hl.1 rfl (lv_room (Nat.le_of_ble_eq_true rfl)) dX1_undoFrom_64 ⟨Nat.le_of_ble_eq_true rfl, Nat.le_of_ble_eq_true rfl⟩) (fun r1 h => ?_)
          try dsimp only at h
          refine lv_ior hx hb dX1_undoFrom_67 ?_
          refine va_put (D := D) (ci := 1) (v := .int (saidBits ||| r1)) (ty := .int) (C := RX1) (T := TX1) (N := 10) hx hb hts hi_X1_undoFrom_X1 tyX1 tyX1_ok nmX1 hown hK.1 hP hD hS 0 rfl rfl 8 (by decide) (hts _ k_X1_undoFrom_4) (fun _ h9 => h9) rfl (by decide +kernel) rfl rfl (Nat.le_of_ble_eq_true rfl) dX1_undoFrom_68 (fun H locs hP hD hS => ?_)
          have hP : va_P D vwCl (W_X1 ca a kinds whos toWhoms topics weights answered deeds size (saidBits ||| r1) deedCount) H := hP
          have hD : va_D _ (W_X1 ca a kinds whos toWhoms topics weights answered deeds size (saidBits ||| r1) deedCount) := hD
          refine lv_iinc (v := x2 + (-1)) (lv' := [(2, .int (x2 + (-1))), (0, .ref (a 0)), (1, .int n)]) hx hb dX1_undoFrom_71 hl (k := 2) rfl rfl (by decide) rfl (fun ls hl => ?_)
          refine lv_goto (tgt := 7) hx hb dX1_undoFrom_74 (by decide) ?_
          exact ih7 size (saidBits ||| r1) deedCount (x2 + (-1)) h _ _ hP hD hS ls (lv_sub hl [1, 2, 0] rfl)
        · have h := h.2 hc
          refine lv_aload_n hx hb dX1_undoFrom_22 rfl (lv_at hl 0 rfl) ?_
          refine lv_dup hx hb dX1_undoFrom_23 rfl ?_
          refine va_get (D := D) (ci := 1) (v := .int size) (C := RX1) (T := TX1) (N := 10) hx hb hts hi_X1_undoFrom_X1 hown hK.1 hP 0 rfl rfl 7 (by decide) (hts _ k_X1_undoFrom_3) (fun _ h9 => h9) rfl dX1_undoFrom_24 ?_
          refine lv_iconst (v := (1)) hx hb dX1_undoFrom_27 (by decide) ?_
          refine lv_isub hx hb dX1_undoFrom_28 ?_
          refine va_put (D := D) (ci := 1) (v := .int (size - (1 : Int32))) (ty := .int) (C := RX1) (T := TX1) (N := 10) hx hb hts hi_X1_undoFrom_X1 tyX1 tyX1_ok nmX1 hown hK.1 hP hD hS 0 rfl rfl 7 (by decide) (hts _ k_X1_undoFrom_3) (fun _ h9 => h9) rfl (by decide +kernel) rfl rfl (Nat.le_of_ble_eq_true rfl) dX1_undoFrom_29 (fun H locs hP hD hS => ?_)
          have hP : va_P D vwCl (W_X1 ca a kinds whos toWhoms topics weights answered deeds (size - (1 : Int32)) saidBits deedCount) H := hP
          have hD : va_D _ (W_X1 ca a kinds whos toWhoms topics weights answered deeds (size - (1 : Int32)) saidBits deedCount) := hD
          refine lv_aload_n hx hb dX1_undoFrom_32 rfl (lv_at hl 0 rfl) ?_
          refine lv_dup hx hb dX1_undoFrom_33 rfl ?_
          refine va_get (D := D) (ci := 1) (v := .int saidBits) (C := RX1) (T := TX1) (N := 10) hx hb hts hi_X1_undoFrom_X1 hown hK.1 hP 0 rfl rfl 8 (by decide) (hts _ k_X1_undoFrom_4) (fun _ h9 => h9) rfl dX1_undoFrom_34 ?_
          refine lv_aload_n hx hb dX1_undoFrom_37 rfl (lv_at hl 0 rfl) ?_
          refine va_get (D := D) (ci := 1) (v := .int (size - (1 : Int32))) (C := RX1) (T := TX1) (N := 10) hx hb hts hi_X1_undoFrom_X1 hown hK.1 hP 0 rfl rfl 7 (by decide) (hts _ k_X1_undoFrom_3) (fun _ h9 => h9) rfl dX1_undoFrom_38 ?_
          refine rd_calli (va_runSN (As := [.int (size - (1 : Int32))]) (rest := [.int saidBits, .ref (a 0)]) ⟨hx, hb, hml, hown, hts⟩ (c_X7_bit l D ca   (size - (1 : Int32)) _ h) ⟨va_cnB 1 hts gX1_undoFrom_X7_bit_n53 rfl rfl rfl (hK.2 (RX1, 53, yX7_bit, "IronedQuarrels") (List.mem_of_getElem? (i := 5) rfl)) (hts _ k_X1_undoFrom_6) (by decide +kernel) ⟨Nat.le_of_ble_eq_true rfl, Nat.le_of_ble_eq_true rfl⟩, hts _ k_X1_undoFrom_5, trivial⟩ (PcX.preS hK (fun k q h => by simp at h)) rfl rfl hl.1 rfl (lv_room (Nat.le_of_ble_eq_true rfl)) dX1_undoFrom_41 ⟨Nat.le_of_ble_eq_true rfl, Nat.le_of_ble_eq_true rfl⟩) (fun r2 h => ?_)
          try dsimp only at h
          refine lv_iconst (v := (-1)) hx hb dX1_undoFrom_44 (by decide) ?_
          refine lv_ixor hx hb dX1_undoFrom_45 ?_
          refine lv_iand hx hb dX1_undoFrom_46 ?_
          refine va_put (D := D) (ci := 1) (v := .int (saidBits &&& (r2 ^^^ (-1 : Int32)))) (ty := .int) (C := RX1) (T := TX1) (N := 10) hx hb hts hi_X1_undoFrom_X1 tyX1 tyX1_ok nmX1 hown hK.1 hP hD hS 0 rfl rfl 8 (by decide) (hts _ k_X1_undoFrom_4) (fun _ h9 => h9) rfl (by decide +kernel) rfl rfl (Nat.le_of_ble_eq_true rfl) dX1_undoFrom_47 (fun H locs hP hD hS => ?_)
          have hP : va_P D vwCl (W_X1 ca a kinds whos toWhoms topics weights answered deeds (size - (1 : Int32)) (saidBits &&& (r2 ^^^ (-1 : Int32))) deedCount) H := hP
          have hD : va_D _ (W_X1 ca a kinds whos toWhoms topics weights answered deeds (size - (1 : Int32)) (saidBits &&& (r2 ^^^ (-1 : Int32))) deedCount) := hD
          refine lv_goto (tgt := 71) hx hb dX1_undoFrom_50 (by decide) ?_
          refine lv_iinc (v := x2 + (-1)) (lv' := [(2, .int (x2 + (-1))), (0, .ref (a 0)), (1, .int n)]) hx hb dX1_undoFrom_71 hl (k := 2) rfl rfl (by decide) rfl (fun ls hl => ?_)
          refine lv_goto (tgt := 7) hx hb dX1_undoFrom_74 (by decide) ?_
          exact ih7 (size - (1 : Int32)) (saidBits &&& (r2 ^^^ (-1 : Int32))) deedCount (x2 + (-1)) h _ _ hP hD hS ls (lv_sub hl [1, 2, 0] rfl)
  unfold wp_X1_undoFrom at h
  refine lv_aload_n hx hb dX1_undoFrom_0 rfl (lv_at hl 0 rfl) ?_
  refine va_get (D := D) (ci := 1) (v := .int deedCount) (C := RX1) (T := TX1) (N := 10) hx hb hts hi_X1_undoFrom_X1 hown hK.1 hP 0 rfl rfl 9 (by decide) (hts _ k_X1_undoFrom_1) (fun _ h9 => h9) rfl dX1_undoFrom_1 ?_
  refine lv_iconst (v := (1)) hx hb dX1_undoFrom_4 (by decide) ?_
  refine lv_isub hx hb dX1_undoFrom_5 ?_
  refine lv_istore_n (lv' := [(2, .int (deedCount - (1 : Int32))), (0, .ref (a 0)), (1, .int n)]) hx hb dX1_undoFrom_6 rfl hl (by decide) rfl (fun ls hl => ?_)
  obtain ⟨zn, h⟩ := h
  exact w_7  zn size saidBits deedCount (deedCount - (1 : Int32)) h _ _ hP hD hS ls (lv_sub hl [1, 2, 0] rfl)

-- IronedQuarrels$Heap.freeAmong(I)I
def wb_X1_freeAmong_4 (kinds : Nat → Int32) (answered : Nat → Int32) (size : Int32) (bits : Int32) (post : Int32 → Prop) (K4 : (Int32) → (Int32) → Prop) (x2 : Int32) (x3 : Int32) : Prop :=
  (size ≤ x3 → (post x2)) ∧ (¬ size ≤ x3 → (wp_X1_mayGo kinds answered size x3 bits (fun r1 => (r1 = 0 → (K4 x2 (x3 + 1))) ∧ (¬ r1 = 0 → (wp_X7_bit x3 (fun r2 => K4 (x2 ||| r2) (x3 + 1)))))))
def wl_X1_freeAmong_4 (kinds : Nat → Int32) (answered : Nat → Int32) (size : Int32) (bits : Int32) (post : Int32 → Prop) : Nat → (Int32) → (Int32) → Prop
  | 0 => fun _ _ => False
  | zn + 1 => wb_X1_freeAmong_4 kinds answered size bits post (wl_X1_freeAmong_4 kinds answered size bits post zn)
def wp_X1_freeAmong (kinds : Nat → Int32) (answered : Nat → Int32) (size : Int32) (bits : Int32) (post : Int32 → Prop) : Prop :=
  ∃ zn, wl_X1_freeAmong_4 kinds answered size bits post zn (0 : Int32) (0 : Int32)
def rm_X1_freeAmong : Room := { frames := 4, cells := 0, slots := 0, locals := 86 }
theorem k_X1_freeAmong_1 : Cond.fieldLink RX1 33 "IronedQuarrels$Heap" "size" "I" ∈ wsX1_freeAmong := List.mem_of_getElem? (i := 1) (by decide +kernel)
theorem k_X1_freeAmong_8 : Cond.initialized RX7 ∈ wsX1_freeAmong := List.mem_of_getElem? (i := 8) (by decide +kernel)
theorem k_X1_freeAmong_20 : Cond.static yX7_bit ∈ wsX1_freeAmong := List.mem_of_getElem? (i := 20) (by decide +kernel)
theorem hi_X1_freeAmong_X1 : ∀ w ∈ wsX10, w ∈ wsX1_freeAmong := fun w h => List.mem_cons_of_mem _ (List.mem_append_right _ h)
set_option maxHeartbeats 4000000 in
set_option maxRecDepth 100000 in
theorem c_X1_freeAmong (l : Launch) (D : va_G) (ca : Nat → ClassId) (a : Nat → Nat) (kinds : Nat → Int32) (whos : Nat → Int32) (toWhoms : Nat → Int32) (topics : Nat → Int32) (weights : Nat → Int32) (answered : Nat → Int32) (deeds : Nat → Int32) (size : Int32) (saidBits : Int32) (deedCount : Int32) (bits : Int32) (post : Int32 → Prop) (h : wp_X1_freeAmong kinds answered size bits post) : Met l yX1_freeAmong wsX1_freeAmong rm_X1_freeAmong (PcX D ca [.ref (a 0), .int bits] (W_X1 ca a kinds whos toWhoms topics weights answered deeds size saidBits deedCount)) (rdI post) 0 0 (fun _ => False) := by
  refine Met.ofW (cc := cX1_freeAmong) (maxL := 4) (ret := (some .int)) (by decide) rfl ?_
  intro zp ze zs zm za zb zt zc z1 B hml hv
  obtain ⟨rfl, hP, hK⟩ := hv
  have hx := B.exec
  have hb := B.bytes
  have hr := B.returns
  have hts := atoms_spec (ws := wsX1_freeAmong) B.pre
  have hown : zs.vm.findClass RX1 = some zm.cls := findClass_of_methodNamed B.named
  have hlocks := B.notSynchronized
  have hl := lv_entry ([.ref (a 0), .int bits]) (n := 4) (Nat.le_of_ble_eq_true rfl)
  rw [lg_entry_eq]
  generalize (lg_sl ([.ref (a 0), .int bits]) ++ List.replicate (4 - (lg_sl ([.ref (a 0), .int bits])).length) Slot.unset).toArray = ls at hl ⊢
  replace hl : lv_has ls 4 [(0, .ref (a 0)), (1, .int bits)] := hl
  show W zp l ze rm_X1_freeAmong zs zm ([.ref (a 0), .int bits] : List Value).toArray zb zt zc zs.heap [] 0 0 (MQ zb (rdI post) ([.ref (a 0), .int bits] : List Value).toArray zs 0 0 (fun _ => False)) (F0 zm 0 ls [])
  have w_4 : ∀ (zn : Nat) (x2 : Int32) (x3 : Int32), wl_X1_freeAmong_4 kinds answered size bits post zn x2 x3 → ∀ ls : Array Slot, lv_has ls 4 [(0, .ref (a 0)), (1, .int bits), (2, .int x2), (3, .int x3)] → W zp l ze rm_X1_freeAmong zs zm ([.ref (a 0), .int bits] : List Value).toArray zb zt zc zs.heap [] 0 0 (MQ zb (rdI post) ([.ref (a 0), .int bits] : List Value).toArray zs 0 0 (fun _ => False)) (F0 zm 4 ls []) := by
    intro zn
    induction zn with
    | zero => intro x2 x3 h; exact h.elim
    | succ zn ih4 =>
      intro x2 x3 h ls hl
      replace h : wb_X1_freeAmong_4 kinds answered size bits post (wl_X1_freeAmong_4 kinds answered size bits post zn) x2 x3 := h
      unfold wb_X1_freeAmong_4 at h
      refine lv_iload_n hx hb dX1_freeAmong_4 rfl (lv_at hl 3 rfl) ?_
      refine lv_aload_n hx hb dX1_freeAmong_5 rfl (lv_at hl 0 rfl) ?_
      refine va_get (D := D) (ci := 1) (v := .int size) (C := RX1) (T := TX1) (N := 10) hx hb hts hi_X1_freeAmong_X1 hown hK.1 hP 0 rfl rfl 7 (by decide) (hts _ k_X1_freeAmong_1) (fun _ h9 => h9) rfl dX1_freeAmong_6 ?_
      refine lv_icmp_ge (tgt := 34) hx hb dX1_freeAmong_9 (by decide) (fun hc => ?_) (fun hc => ?_)
      · have h := h.1 hc
        refine lv_iload_n hx hb dX1_freeAmong_34 rfl (lv_at hl 2 rfl) ?_
        exact W.iret (v := x2) hx hb hr (fun t ht hW => ⟨x2, rfl, h, ht⟩) (fun q hq => absurd hq List.not_mem_nil) dX1_freeAmong_35
      · have h := h.2 hc
        refine lv_aload_n hx hb dX1_freeAmong_12 rfl (lv_at hl 0 rfl) ?_
        refine lv_iload_n hx hb dX1_freeAmong_13 rfl (lv_at hl 3 rfl) ?_
        refine lv_iload_n hx hb dX1_freeAmong_14 rfl (lv_at hl 1 rfl) ?_
        refine rd_callz (va_runV (As := [.int x3, .int bits]) (rest := []) ⟨hx, hb, hml, hown, hts⟩ (c_X1_mayGo l D ca a kinds whos toWhoms topics weights answered deeds size saidBits deedCount x3 bits _ h) (cwV 2 hts gX1_freeAmong_X1_mayGo rfl rfl rfl (by decide +kernel) ⟨Nat.le_of_ble_eq_true rfl, Nat.le_of_ble_eq_true rfl⟩) (PcX.preV (q := (RX1, TX1, 10)) (ci := 1) (q0 := 0) hK hP rfl rfl hP) rfl rfl hl.1 rfl (lv_room (Nat.le_of_ble_eq_true rfl)) dX1_freeAmong_15 ⟨Nat.le_of_ble_eq_true rfl, Nat.le_of_ble_eq_true rfl⟩) (fun r1 h hz_r1 => ?_)
        try dsimp only at h
        refine lv_if_eq (tgt := 28) hx hb dX1_freeAmong_18 (by decide) (fun hc => ?_) (fun hc => ?_)
        · have h := h.1 hc
          refine lv_iinc (v := x3 + 1) (lv' := [(3, .int (x3 + 1)), (0, .ref (a 0)), (1, .int bits), (2, .int x2)]) hx hb dX1_freeAmong_28 hl (k := 3) rfl rfl (by decide) rfl (fun ls hl => ?_)
          refine lv_goto (tgt := 4) hx hb dX1_freeAmong_31 (by decide) ?_
          exact ih4 x2 (x3 + 1) h ls (lv_sub hl [1, 2, 3, 0] rfl)
        · have h := h.2 hc
          refine lv_iload_n hx hb dX1_freeAmong_21 rfl (lv_at hl 2 rfl) ?_
          refine lv_iload_n hx hb dX1_freeAmong_22 rfl (lv_at hl 3 rfl) ?_
          refine rd_calli (va_runSN (As := [.int x3]) (rest := [.int x2]) ⟨hx, hb, hml, hown, hts⟩ (c_X7_bit l D ca   x3 _ h) ⟨va_cnB 1 hts gX1_freeAmong_X7_bit_n53 rfl rfl rfl (hK.2 (RX1, 53, yX7_bit, "IronedQuarrels") (List.mem_of_getElem? (i := 5) rfl)) (hts _ k_X1_freeAmong_8) (by decide +kernel) ⟨Nat.le_of_ble_eq_true rfl, Nat.le_of_ble_eq_true rfl⟩, hts _ k_X1_freeAmong_20, trivial⟩ (PcX.preS hK (fun k q h => by simp at h)) rfl rfl hl.1 rfl (lv_room (Nat.le_of_ble_eq_true rfl)) dX1_freeAmong_23 ⟨Nat.le_of_ble_eq_true rfl, Nat.le_of_ble_eq_true rfl⟩) (fun r2 h => ?_)
          try dsimp only at h
          refine lv_ior hx hb dX1_freeAmong_26 ?_
          refine lv_istore_n (lv' := [(2, .int (x2 ||| r2)), (0, .ref (a 0)), (1, .int bits), (3, .int x3)]) hx hb dX1_freeAmong_27 rfl hl (by decide) rfl (fun ls hl => ?_)
          refine lv_iinc (v := x3 + 1) (lv' := [(3, .int (x3 + 1)), (2, .int (x2 ||| r2)), (0, .ref (a 0)), (1, .int bits)]) hx hb dX1_freeAmong_28 hl (k := 3) rfl rfl (by decide) rfl (fun ls hl => ?_)
          refine lv_goto (tgt := 4) hx hb dX1_freeAmong_31 (by decide) ?_
          exact ih4 (x2 ||| r2) (x3 + 1) h ls (lv_sub hl [2, 3, 1, 0] rfl)
  unfold wp_X1_freeAmong at h
  refine lv_iconst (v := (0)) hx hb dX1_freeAmong_0 (by decide) ?_
  refine lv_istore_n (lv' := [(2, .int (0 : Int32)), (0, .ref (a 0)), (1, .int bits)]) hx hb dX1_freeAmong_1 rfl hl (by decide) rfl (fun ls hl => ?_)
  refine lv_iconst (v := (0)) hx hb dX1_freeAmong_2 (by decide) ?_
  refine lv_istore_n (lv' := [(3, .int (0 : Int32)), (2, .int (0 : Int32)), (0, .ref (a 0)), (1, .int bits)]) hx hb dX1_freeAmong_3 rfl hl (by decide) rfl (fun ls hl => ?_)
  obtain ⟨zn, h⟩ := h
  exact w_4  zn (0 : Int32) (0 : Int32) h ls (lv_sub hl [2, 3, 1, 0] rfl)

-- IronedQuarrels$Heap.leaningOn(I)I
def wb_X1_leaningOn_6 (answered : Nat → Int32) (size : Int32) (i : Int32) (post : Int32 → Prop) (K6 : (Int32) → (Int32) → Prop) (x2 : Int32) (x3 : Int32) : Prop :=
  (size ≤ x3 → (post x2)) ∧ (¬ size ≤ x3 → (wp_X1_leanedOn answered size x3 (fun r1 => wp_X7_hasBit r1 i (fun r2 => (r2 = 0 → (K6 x2 (x3 + 1))) ∧ (¬ r2 = 0 → (wp_X7_bit x3 (fun r3 => K6 (x2 ||| r3) (x3 + 1))))))))
def wl_X1_leaningOn_6 (answered : Nat → Int32) (size : Int32) (i : Int32) (post : Int32 → Prop) : Nat → (Int32) → (Int32) → Prop
  | 0 => fun _ _ => False
  | zn + 1 => wb_X1_leaningOn_6 answered size i post (wl_X1_leaningOn_6 answered size i post zn)
def wp_X1_leaningOn (answered : Nat → Int32) (size : Int32) (i : Int32) (post : Int32 → Prop) : Prop :=
  ∃ zn, wl_X1_leaningOn_6 answered size i post zn (0 : Int32) (i + (1 : Int32))
def rm_X1_leaningOn : Room := { frames := 2, cells := 0, slots := 0, locals := 45 }
theorem k_X1_leaningOn_1 : Cond.fieldLink RX1 33 "IronedQuarrels$Heap" "size" "I" ∈ wsX1_leaningOn := List.mem_of_getElem? (i := 1) (by decide +kernel)
theorem k_X1_leaningOn_12 : Cond.static yX7_bit ∈ wsX1_leaningOn := List.mem_of_getElem? (i := 12) (by decide +kernel)
theorem k_X1_leaningOn_13 : Cond.initialized RX7 ∈ wsX1_leaningOn := List.mem_of_getElem? (i := 13) (by decide +kernel)
theorem k_X1_leaningOn_15 : Cond.static yX7_hasBit ∈ wsX1_leaningOn := List.mem_of_getElem? (i := 15) (by decide +kernel)
theorem hi_X1_leaningOn_X1 : ∀ w ∈ wsX10, w ∈ wsX1_leaningOn := fun w h => List.mem_cons_of_mem _ (List.mem_append_right _ h)
set_option maxHeartbeats 4000000 in
set_option maxRecDepth 100000 in
theorem c_X1_leaningOn (l : Launch) (D : va_G) (ca : Nat → ClassId) (a : Nat → Nat) (kinds : Nat → Int32) (whos : Nat → Int32) (toWhoms : Nat → Int32) (topics : Nat → Int32) (weights : Nat → Int32) (answered : Nat → Int32) (deeds : Nat → Int32) (size : Int32) (saidBits : Int32) (deedCount : Int32) (i : Int32) (post : Int32 → Prop) (h : wp_X1_leaningOn answered size i post) : Met l yX1_leaningOn wsX1_leaningOn rm_X1_leaningOn (PcX D ca [.ref (a 0), .int i] (W_X1 ca a kinds whos toWhoms topics weights answered deeds size saidBits deedCount)) (rdI post) 0 0 (fun _ => False) := by
  refine Met.ofW (cc := cX1_leaningOn) (maxL := 4) (ret := (some .int)) (by decide) rfl ?_
  intro zp ze zs zm za zb zt zc z1 B hml hv
  obtain ⟨rfl, hP, hK⟩ := hv
  have hx := B.exec
  have hb := B.bytes
  have hr := B.returns
  have hts := atoms_spec (ws := wsX1_leaningOn) B.pre
  have hown : zs.vm.findClass RX1 = some zm.cls := findClass_of_methodNamed B.named
  have hlocks := B.notSynchronized
  have hl := lv_entry ([.ref (a 0), .int i]) (n := 4) (Nat.le_of_ble_eq_true rfl)
  rw [lg_entry_eq]
  generalize (lg_sl ([.ref (a 0), .int i]) ++ List.replicate (4 - (lg_sl ([.ref (a 0), .int i])).length) Slot.unset).toArray = ls at hl ⊢
  replace hl : lv_has ls 4 [(0, .ref (a 0)), (1, .int i)] := hl
  show W zp l ze rm_X1_leaningOn zs zm ([.ref (a 0), .int i] : List Value).toArray zb zt zc zs.heap [] 0 0 (MQ zb (rdI post) ([.ref (a 0), .int i] : List Value).toArray zs 0 0 (fun _ => False)) (F0 zm 0 ls [])
  have w_6 : ∀ (zn : Nat) (x2 : Int32) (x3 : Int32), wl_X1_leaningOn_6 answered size i post zn x2 x3 → ∀ ls : Array Slot, lv_has ls 4 [(0, .ref (a 0)), (1, .int i), (2, .int x2), (3, .int x3)] → W zp l ze rm_X1_leaningOn zs zm ([.ref (a 0), .int i] : List Value).toArray zb zt zc zs.heap [] 0 0 (MQ zb (rdI post) ([.ref (a 0), .int i] : List Value).toArray zs 0 0 (fun _ => False)) (F0 zm 6 ls []) := by
    intro zn
    induction zn with
    | zero => intro x2 x3 h; exact h.elim
    | succ zn ih6 =>
      intro x2 x3 h ls hl
      replace h : wb_X1_leaningOn_6 answered size i post (wl_X1_leaningOn_6 answered size i post zn) x2 x3 := h
      unfold wb_X1_leaningOn_6 at h
      refine lv_iload_n hx hb dX1_leaningOn_6 rfl (lv_at hl 3 rfl) ?_
      refine lv_aload_n hx hb dX1_leaningOn_7 rfl (lv_at hl 0 rfl) ?_
      refine va_get (D := D) (ci := 1) (v := .int size) (C := RX1) (T := TX1) (N := 10) hx hb hts hi_X1_leaningOn_X1 hown hK.1 hP 0 rfl rfl 7 (by decide) (hts _ k_X1_leaningOn_1) (fun _ h9 => h9) rfl dX1_leaningOn_8 ?_
      refine lv_icmp_ge (tgt := 39) hx hb dX1_leaningOn_11 (by decide) (fun hc => ?_) (fun hc => ?_)
      · have h := h.1 hc
        refine lv_iload_n hx hb dX1_leaningOn_39 rfl (lv_at hl 2 rfl) ?_
        exact W.iret (v := x2) hx hb hr (fun t ht hW => ⟨x2, rfl, h, ht⟩) (fun q hq => absurd hq List.not_mem_nil) dX1_leaningOn_40
      · have h := h.2 hc
        refine lv_aload_n hx hb dX1_leaningOn_14 rfl (lv_at hl 0 rfl) ?_
        refine lv_iload_n hx hb dX1_leaningOn_15 rfl (lv_at hl 3 rfl) ?_
        refine rd_calli (va_runV (As := [.int x3]) (rest := []) ⟨hx, hb, hml, hown, hts⟩ (c_X1_leanedOn l D ca a kinds whos toWhoms topics weights answered deeds size saidBits deedCount x3 _ h) (cwV 1 hts gX1_leaningOn_X1_leanedOn rfl rfl rfl (by decide +kernel) ⟨Nat.le_of_ble_eq_true rfl, Nat.le_of_ble_eq_true rfl⟩) (PcX.preV (q := (RX1, TX1, 10)) (ci := 1) (q0 := 0) hK hP rfl rfl hP) rfl rfl hl.1 rfl (lv_room (Nat.le_of_ble_eq_true rfl)) dX1_leaningOn_16 ⟨Nat.le_of_ble_eq_true rfl, Nat.le_of_ble_eq_true rfl⟩) (fun r1 h => ?_)
        try dsimp only at h
        refine lv_iload_n hx hb dX1_leaningOn_19 rfl (lv_at hl 1 rfl) ?_
        refine rd_callz (va_runSN (As := [.int r1, .int i]) (rest := []) ⟨hx, hb, hml, hown, hts⟩ (c_X7_hasBit l D ca   r1 i _ h) ⟨va_cnB 2 hts gX1_leaningOn_X7_hasBit_n57 rfl rfl rfl (hK.2 (RX1, 57, yX7_hasBit, "IronedQuarrels") (List.mem_of_getElem? (i := 6) rfl)) (hts _ k_X1_leaningOn_13) (by decide +kernel) ⟨Nat.le_of_ble_eq_true rfl, Nat.le_of_ble_eq_true rfl⟩, hts _ k_X1_leaningOn_15, trivial⟩ (PcX.preS hK (fun k q h => by simp at h)) rfl rfl hl.1 rfl (lv_room (Nat.le_of_ble_eq_true rfl)) dX1_leaningOn_20 ⟨Nat.le_of_ble_eq_true rfl, Nat.le_of_ble_eq_true rfl⟩) (fun r2 h hz_r2 => ?_)
        try dsimp only at h
        refine lv_if_eq (tgt := 33) hx hb dX1_leaningOn_23 (by decide) (fun hc => ?_) (fun hc => ?_)
        · have h := h.1 hc
          refine lv_iinc (v := x3 + 1) (lv' := [(3, .int (x3 + 1)), (0, .ref (a 0)), (1, .int i), (2, .int x2)]) hx hb dX1_leaningOn_33 hl (k := 3) rfl rfl (by decide) rfl (fun ls hl => ?_)
          refine lv_goto (tgt := 6) hx hb dX1_leaningOn_36 (by decide) ?_
          exact ih6 x2 (x3 + 1) h ls (lv_sub hl [1, 2, 3, 0] rfl)
        · have h := h.2 hc
          refine lv_iload_n hx hb dX1_leaningOn_26 rfl (lv_at hl 2 rfl) ?_
          refine lv_iload_n hx hb dX1_leaningOn_27 rfl (lv_at hl 3 rfl) ?_
          refine rd_calli (va_runSN (As := [.int x3]) (rest := [.int x2]) ⟨hx, hb, hml, hown, hts⟩ (c_X7_bit l D ca   x3 _ h) ⟨va_cnB 1 hts gX1_leaningOn_X7_bit_n53 rfl rfl rfl (hK.2 (RX1, 53, yX7_bit, "IronedQuarrels") (List.mem_of_getElem? (i := 5) rfl)) (hts _ k_X1_leaningOn_13) (by decide +kernel) ⟨Nat.le_of_ble_eq_true rfl, Nat.le_of_ble_eq_true rfl⟩, hts _ k_X1_leaningOn_12, trivial⟩ (PcX.preS hK (fun k q h => by simp at h)) rfl rfl hl.1 rfl (lv_room (Nat.le_of_ble_eq_true rfl)) dX1_leaningOn_28 ⟨Nat.le_of_ble_eq_true rfl, Nat.le_of_ble_eq_true rfl⟩) (fun r3 h => ?_)
          try dsimp only at h
          refine lv_ior hx hb dX1_leaningOn_31 ?_
          refine lv_istore_n (lv' := [(2, .int (x2 ||| r3)), (0, .ref (a 0)), (1, .int i), (3, .int x3)]) hx hb dX1_leaningOn_32 rfl hl (by decide) rfl (fun ls hl => ?_)
          refine lv_iinc (v := x3 + 1) (lv' := [(3, .int (x3 + 1)), (2, .int (x2 ||| r3)), (0, .ref (a 0)), (1, .int i)]) hx hb dX1_leaningOn_33 hl (k := 3) rfl rfl (by decide) rfl (fun ls hl => ?_)
          refine lv_goto (tgt := 6) hx hb dX1_leaningOn_36 (by decide) ?_
          exact ih6 (x2 ||| r3) (x3 + 1) h ls (lv_sub hl [2, 3, 1, 0] rfl)
  unfold wp_X1_leaningOn at h
  refine lv_iconst (v := (0)) hx hb dX1_leaningOn_0 (by decide) ?_
  refine lv_istore_n (lv' := [(2, .int (0 : Int32)), (0, .ref (a 0)), (1, .int i)]) hx hb dX1_leaningOn_1 rfl hl (by decide) rfl (fun ls hl => ?_)
  refine lv_iload_n hx hb dX1_leaningOn_2 rfl (lv_at hl 2 rfl) ?_
  refine lv_iconst (v := (1)) hx hb dX1_leaningOn_3 (by decide) ?_
  refine lv_iadd hx hb dX1_leaningOn_4 ?_
  refine lv_istore_n (lv' := [(3, .int (i + (1 : Int32))), (2, .int (0 : Int32)), (0, .ref (a 0)), (1, .int i)]) hx hb dX1_leaningOn_5 rfl hl (by decide) rfl (fun ls hl => ?_)
  obtain ⟨zn, h⟩ := h
  exact w_6  zn (0 : Int32) (i + (1 : Int32)) h ls (lv_sub hl [2, 3, 1, 0] rfl)

-- IronedQuarrels$Heap.beginningsOfSaid()I
def wb_X1_beginningsOfSaid_4 (answered : Nat → Int32) (size : Int32) (saidBits : Int32) (post : Int32 → Prop) (K4 : (Int32) → (Int32) → Prop) (x1 : Int32) (x2 : Int32) : Prop :=
  (size ≤ x2 → (post x1)) ∧ (¬ size ≤ x2 → (wp_X1_isSaid saidBits x2 (fun r1 => (r1 = 0 → (K4 x1 (x2 + 1))) ∧ (¬ r1 = 0 → (wp_X1_beginningOf answered size x2 (fun r2 => wp_X7_bit r2 (fun r3 => K4 (x1 ||| r3) (x2 + 1))))))))
def wl_X1_beginningsOfSaid_4 (answered : Nat → Int32) (size : Int32) (saidBits : Int32) (post : Int32 → Prop) : Nat → (Int32) → (Int32) → Prop
  | 0 => fun _ _ => False
  | zn + 1 => wb_X1_beginningsOfSaid_4 answered size saidBits post (wl_X1_beginningsOfSaid_4 answered size saidBits post zn)
def wp_X1_beginningsOfSaid (answered : Nat → Int32) (size : Int32) (saidBits : Int32) (post : Int32 → Prop) : Prop :=
  ∃ zn, wl_X1_beginningsOfSaid_4 answered size saidBits post zn (0 : Int32) (0 : Int32)
def rm_X1_beginningsOfSaid : Room := { frames := 3, cells := 0, slots := 0, locals := 67 }
theorem k_X1_beginningsOfSaid_1 : Cond.fieldLink RX1 33 "IronedQuarrels$Heap" "size" "I" ∈ wsX1_beginningsOfSaid := List.mem_of_getElem? (i := 1) (by decide +kernel)
theorem k_X1_beginningsOfSaid_9 : Cond.initialized RX7 ∈ wsX1_beginningsOfSaid := List.mem_of_getElem? (i := 9) (by decide +kernel)
theorem k_X1_beginningsOfSaid_24 : Cond.static yX7_bit ∈ wsX1_beginningsOfSaid := List.mem_of_getElem? (i := 24) (by decide +kernel)
theorem hi_X1_beginningsOfSaid_X1 : ∀ w ∈ wsX10, w ∈ wsX1_beginningsOfSaid := fun w h => List.mem_cons_of_mem _ (List.mem_append_right _ h)
set_option maxHeartbeats 4000000 in
set_option maxRecDepth 100000 in
theorem c_X1_beginningsOfSaid (l : Launch) (D : va_G) (ca : Nat → ClassId) (a : Nat → Nat) (kinds : Nat → Int32) (whos : Nat → Int32) (toWhoms : Nat → Int32) (topics : Nat → Int32) (weights : Nat → Int32) (answered : Nat → Int32) (deeds : Nat → Int32) (size : Int32) (saidBits : Int32) (deedCount : Int32)  (post : Int32 → Prop) (h : wp_X1_beginningsOfSaid answered size saidBits post) : Met l yX1_beginningsOfSaid wsX1_beginningsOfSaid rm_X1_beginningsOfSaid (PcX D ca [.ref (a 0)] (W_X1 ca a kinds whos toWhoms topics weights answered deeds size saidBits deedCount)) (rdI post) 0 0 (fun _ => False) := by
  refine Met.ofW (cc := cX1_beginningsOfSaid) (maxL := 3) (ret := (some .int)) (by decide) rfl ?_
  intro zp ze zs zm za zb zt zc z1 B hml hv
  obtain ⟨rfl, hP, hK⟩ := hv
  have hx := B.exec
  have hb := B.bytes
  have hr := B.returns
  have hts := atoms_spec (ws := wsX1_beginningsOfSaid) B.pre
  have hown : zs.vm.findClass RX1 = some zm.cls := findClass_of_methodNamed B.named
  have hlocks := B.notSynchronized
  have hl := lv_entry ([.ref (a 0)]) (n := 3) (Nat.le_of_ble_eq_true rfl)
  rw [lg_entry_eq]
  generalize (lg_sl ([.ref (a 0)]) ++ List.replicate (3 - (lg_sl ([.ref (a 0)])).length) Slot.unset).toArray = ls at hl ⊢
  replace hl : lv_has ls 3 [(0, .ref (a 0))] := hl
  show W zp l ze rm_X1_beginningsOfSaid zs zm ([.ref (a 0)] : List Value).toArray zb zt zc zs.heap [] 0 0 (MQ zb (rdI post) ([.ref (a 0)] : List Value).toArray zs 0 0 (fun _ => False)) (F0 zm 0 ls [])
  have w_4 : ∀ (zn : Nat) (x1 : Int32) (x2 : Int32), wl_X1_beginningsOfSaid_4 answered size saidBits post zn x1 x2 → ∀ ls : Array Slot, lv_has ls 3 [(0, .ref (a 0)), (1, .int x1), (2, .int x2)] → W zp l ze rm_X1_beginningsOfSaid zs zm ([.ref (a 0)] : List Value).toArray zb zt zc zs.heap [] 0 0 (MQ zb (rdI post) ([.ref (a 0)] : List Value).toArray zs 0 0 (fun _ => False)) (F0 zm 4 ls []) := by
    intro zn
    induction zn with
    | zero => intro x1 x2 h; exact h.elim
    | succ zn ih4 =>
      intro x1 x2 h ls hl
      replace h : wb_X1_beginningsOfSaid_4 answered size saidBits post (wl_X1_beginningsOfSaid_4 answered size saidBits post zn) x1 x2 := h
      unfold wb_X1_beginningsOfSaid_4 at h
      refine lv_iload_n hx hb dX1_beginningsOfSaid_4 rfl (lv_at hl 2 rfl) ?_
      refine lv_aload_n hx hb dX1_beginningsOfSaid_5 rfl (lv_at hl 0 rfl) ?_
      refine va_get (D := D) (ci := 1) (v := .int size) (C := RX1) (T := TX1) (N := 10) hx hb hts hi_X1_beginningsOfSaid_X1 hown hK.1 hP 0 rfl rfl 7 (by decide) (hts _ k_X1_beginningsOfSaid_1) (fun _ h9 => h9) rfl dX1_beginningsOfSaid_6 ?_
      refine lv_icmp_ge (tgt := 37) hx hb dX1_beginningsOfSaid_9 (by decide) (fun hc => ?_) (fun hc => ?_)
      · have h := h.1 hc
        refine lv_iload_n hx hb dX1_beginningsOfSaid_37 rfl (lv_at hl 1 rfl) ?_
        exact W.iret (v := x1) hx hb hr (fun t ht hW => ⟨x1, rfl, h, ht⟩) (fun q hq => absurd hq List.not_mem_nil) dX1_beginningsOfSaid_38
      · have h := h.2 hc
        refine lv_aload_n hx hb dX1_beginningsOfSaid_12 rfl (lv_at hl 0 rfl) ?_
        refine lv_iload_n hx hb dX1_beginningsOfSaid_13 rfl (lv_at hl 2 rfl) ?_
        refine rd_callz (va_runV (As := [.int x2]) (rest := []) ⟨hx, hb, hml, hown, hts⟩ (c_X1_isSaid l D ca a kinds whos toWhoms topics weights answered deeds size saidBits deedCount x2 _ h) (cwV 1 hts gX1_beginningsOfSaid_X1_isSaid rfl rfl rfl (by decide +kernel) ⟨Nat.le_of_ble_eq_true rfl, Nat.le_of_ble_eq_true rfl⟩) (PcX.preV (q := (RX1, TX1, 10)) (ci := 1) (q0 := 0) hK hP rfl rfl hP) rfl rfl hl.1 rfl (lv_room (Nat.le_of_ble_eq_true rfl)) dX1_beginningsOfSaid_14 ⟨Nat.le_of_ble_eq_true rfl, Nat.le_of_ble_eq_true rfl⟩) (fun r1 h hz_r1 => ?_)
        try dsimp only at h
        refine lv_if_eq (tgt := 31) hx hb dX1_beginningsOfSaid_17 (by decide) (fun hc => ?_) (fun hc => ?_)
        · have h := h.1 hc
          refine lv_iinc (v := x2 + 1) (lv' := [(2, .int (x2 + 1)), (0, .ref (a 0)), (1, .int x1)]) hx hb dX1_beginningsOfSaid_31 hl (k := 2) rfl rfl (by decide) rfl (fun ls hl => ?_)
          refine lv_goto (tgt := 4) hx hb dX1_beginningsOfSaid_34 (by decide) ?_
          exact ih4 x1 (x2 + 1) h ls (lv_sub hl [1, 2, 0] rfl)
        · have h := h.2 hc
          refine lv_iload_n hx hb dX1_beginningsOfSaid_20 rfl (lv_at hl 1 rfl) ?_
          refine lv_aload_n hx hb dX1_beginningsOfSaid_21 rfl (lv_at hl 0 rfl) ?_
          refine lv_iload_n hx hb dX1_beginningsOfSaid_22 rfl (lv_at hl 2 rfl) ?_
          refine rd_calli (va_runV (As := [.int x2]) (rest := [.int x1]) ⟨hx, hb, hml, hown, hts⟩ (c_X1_beginningOf l D ca a kinds whos toWhoms topics weights answered deeds size saidBits deedCount x2 _ h) (cwV 1 hts gX1_beginningsOfSaid_X1_beginningOf rfl rfl rfl (by decide +kernel) ⟨Nat.le_of_ble_eq_true rfl, Nat.le_of_ble_eq_true rfl⟩) (PcX.preV (q := (RX1, TX1, 10)) (ci := 1) (q0 := 0) hK hP rfl rfl hP) rfl rfl hl.1 rfl (lv_room (Nat.le_of_ble_eq_true rfl)) dX1_beginningsOfSaid_23 ⟨Nat.le_of_ble_eq_true rfl, Nat.le_of_ble_eq_true rfl⟩) (fun r2 h => ?_)
          try dsimp only at h
          refine rd_calli (va_runSN (As := [.int r2]) (rest := [.int x1]) ⟨hx, hb, hml, hown, hts⟩ (c_X7_bit l D ca   r2 _ h) ⟨va_cnB 1 hts gX1_beginningsOfSaid_X7_bit_n53 rfl rfl rfl (hK.2 (RX1, 53, yX7_bit, "IronedQuarrels") (List.mem_of_getElem? (i := 5) rfl)) (hts _ k_X1_beginningsOfSaid_9) (by decide +kernel) ⟨Nat.le_of_ble_eq_true rfl, Nat.le_of_ble_eq_true rfl⟩, hts _ k_X1_beginningsOfSaid_24, trivial⟩ (PcX.preS hK (fun k q h => by simp at h)) rfl rfl hl.1 rfl (lv_room (Nat.le_of_ble_eq_true rfl)) dX1_beginningsOfSaid_26 ⟨Nat.le_of_ble_eq_true rfl, Nat.le_of_ble_eq_true rfl⟩) (fun r3 h => ?_)
          try dsimp only at h
          refine lv_ior hx hb dX1_beginningsOfSaid_29 ?_
          refine lv_istore_n (lv' := [(1, .int (x1 ||| r3)), (0, .ref (a 0)), (2, .int x2)]) hx hb dX1_beginningsOfSaid_30 rfl hl (by decide) rfl (fun ls hl => ?_)
          refine lv_iinc (v := x2 + 1) (lv' := [(2, .int (x2 + 1)), (1, .int (x1 ||| r3)), (0, .ref (a 0))]) hx hb dX1_beginningsOfSaid_31 hl (k := 2) rfl rfl (by decide) rfl (fun ls hl => ?_)
          refine lv_goto (tgt := 4) hx hb dX1_beginningsOfSaid_34 (by decide) ?_
          exact ih4 (x1 ||| r3) (x2 + 1) h ls (lv_sub hl [2, 1, 0] rfl)
  unfold wp_X1_beginningsOfSaid at h
  refine lv_iconst (v := (0)) hx hb dX1_beginningsOfSaid_0 (by decide) ?_
  refine lv_istore_n (lv' := [(1, .int (0 : Int32)), (0, .ref (a 0))]) hx hb dX1_beginningsOfSaid_1 rfl hl (by decide) rfl (fun ls hl => ?_)
  refine lv_iconst (v := (0)) hx hb dX1_beginningsOfSaid_2 (by decide) ?_
  refine lv_istore_n (lv' := [(2, .int (0 : Int32)), (1, .int (0 : Int32)), (0, .ref (a 0))]) hx hb dX1_beginningsOfSaid_3 rfl hl (by decide) rfl (fun ls hl => ?_)
  obtain ⟨zn, h⟩ := h
  exact w_4  zn (0 : Int32) (0 : Int32) h ls (lv_sub hl [2, 1, 0] rfl)

-- IronedQuarrels$Heap.deepest()I
def wb_X1_deepest_7 (answered : Nat → Int32) (size : Int32) (post : Int32 → Prop) (K7 : (Int32) → (Int32) → (Int32) → Prop) (x1 : Int32) (x2 : Int32) (x3 : Int32) : Prop :=
  (size ≤ x3 → (post x1)) ∧ (¬ size ≤ x3 → (wp_X1_leanedOn answered size x3 (fun r1 => wp_J6_bitCount_0f7a4 r1 (fun r2 => (r2 ≤ x2 → (K7 x1 x2 (x3 + 1))) ∧ (¬ r2 ≤ x2 → (K7 x3 r2 (x3 + 1)))))))
def wl_X1_deepest_7 (answered : Nat → Int32) (size : Int32) (post : Int32 → Prop) : Nat → (Int32) → (Int32) → (Int32) → Prop
  | 0 => fun _ _ _ => False
  | zn + 1 => wb_X1_deepest_7 answered size post (wl_X1_deepest_7 answered size post zn)
def wp_X1_deepest (answered : Nat → Int32) (size : Int32) (post : Int32 → Prop) : Prop :=
  ∃ zn, wl_X1_deepest_7 answered size post zn (-9 : Int32) (-1 : Int32) (0 : Int32)
def rm_X1_deepest : Room := { frames := 2, cells := 0, slots := 0, locals := 45 }
theorem k_X1_deepest_1 : Cond.fieldLink RX1 33 "IronedQuarrels$Heap" "size" "I" ∈ wsX1_deepest := List.mem_of_getElem? (i := 1) (by decide +kernel)
theorem hi_X1_deepest_X1 : ∀ w ∈ wsX10, w ∈ wsX1_deepest := fun w h => List.mem_cons_of_mem _ (List.mem_append_right _ h)
set_option maxHeartbeats 4000000 in
set_option maxRecDepth 100000 in
theorem c_X1_deepest (l : Launch) (D : va_G) (ca : Nat → ClassId) (a : Nat → Nat) (kinds : Nat → Int32) (whos : Nat → Int32) (toWhoms : Nat → Int32) (topics : Nat → Int32) (weights : Nat → Int32) (answered : Nat → Int32) (deeds : Nat → Int32) (size : Int32) (saidBits : Int32) (deedCount : Int32)  (post : Int32 → Prop) (h : wp_X1_deepest answered size post) : Met l yX1_deepest wsX1_deepest rm_X1_deepest (PcX D ca [.ref (a 0)] (W_X1 ca a kinds whos toWhoms topics weights answered deeds size saidBits deedCount)) (rdI post) 0 0 (fun _ => False) := by
  refine Met.ofW (cc := cX1_deepest) (maxL := 5) (ret := (some .int)) (by decide) rfl ?_
  intro zp ze zs zm za zb zt zc z1 B hml hv
  obtain ⟨rfl, hP, hK⟩ := hv
  have hx := B.exec
  have hb := B.bytes
  have hr := B.returns
  have hts := atoms_spec (ws := wsX1_deepest) B.pre
  have hown : zs.vm.findClass RX1 = some zm.cls := findClass_of_methodNamed B.named
  have hlocks := B.notSynchronized
  have hl := lv_entry ([.ref (a 0)]) (n := 5) (Nat.le_of_ble_eq_true rfl)
  rw [lg_entry_eq]
  generalize (lg_sl ([.ref (a 0)]) ++ List.replicate (5 - (lg_sl ([.ref (a 0)])).length) Slot.unset).toArray = ls at hl ⊢
  replace hl : lv_has ls 5 [(0, .ref (a 0))] := hl
  show W zp l ze rm_X1_deepest zs zm ([.ref (a 0)] : List Value).toArray zb zt zc zs.heap [] 0 0 (MQ zb (rdI post) ([.ref (a 0)] : List Value).toArray zs 0 0 (fun _ => False)) (F0 zm 0 ls [])
  have w_7 : ∀ (zn : Nat) (x1 : Int32) (x2 : Int32) (x3 : Int32), wl_X1_deepest_7 answered size post zn x1 x2 x3 → ∀ ls : Array Slot, lv_has ls 5 [(0, .ref (a 0)), (1, .int x1), (2, .int x2), (3, .int x3)] → W zp l ze rm_X1_deepest zs zm ([.ref (a 0)] : List Value).toArray zb zt zc zs.heap [] 0 0 (MQ zb (rdI post) ([.ref (a 0)] : List Value).toArray zs 0 0 (fun _ => False)) (F0 zm 7 ls []) := by
    intro zn
    induction zn with
    | zero => intro x1 x2 x3 h; exact h.elim
    | succ zn ih7 =>
      intro x1 x2 x3 h ls hl
      replace h : wb_X1_deepest_7 answered size post (wl_X1_deepest_7 answered size post zn) x1 x2 x3 := h
      unfold wb_X1_deepest_7 at h
      refine lv_iload_n hx hb dX1_deepest_7 rfl (lv_at hl 3 rfl) ?_
      refine lv_aload_n hx hb dX1_deepest_8 rfl (lv_at hl 0 rfl) ?_
      refine va_get (D := D) (ci := 1) (v := .int size) (C := RX1) (T := TX1) (N := 10) hx hb hts hi_X1_deepest_X1 hown hK.1 hP 0 rfl rfl 7 (by decide) (hts _ k_X1_deepest_1) (fun _ h9 => h9) rfl dX1_deepest_9 ?_
      refine lv_icmp_ge (tgt := 42) hx hb dX1_deepest_12 (by decide) (fun hc => ?_) (fun hc => ?_)
      · have h := h.1 hc
        refine lv_iload_n hx hb dX1_deepest_42 rfl (lv_at hl 1 rfl) ?_
        exact W.iret (v := x1) hx hb hr (fun t ht hW => ⟨x1, rfl, h, ht⟩) (fun q hq => absurd hq List.not_mem_nil) dX1_deepest_43
      · have h := h.2 hc
        refine lv_aload_n hx hb dX1_deepest_15 rfl (lv_at hl 0 rfl) ?_
        refine lv_iload_n hx hb dX1_deepest_16 rfl (lv_at hl 3 rfl) ?_
        refine rd_calli (va_runV (As := [.int x3]) (rest := []) ⟨hx, hb, hml, hown, hts⟩ (c_X1_leanedOn l D ca a kinds whos toWhoms topics weights answered deeds size saidBits deedCount x3 _ h) (cwV 1 hts gX1_deepest_X1_leanedOn rfl rfl rfl (by decide +kernel) ⟨Nat.le_of_ble_eq_true rfl, Nat.le_of_ble_eq_true rfl⟩) (PcX.preV (q := (RX1, TX1, 10)) (ci := 1) (q0 := 0) hK hP rfl rfl hP) rfl rfl hl.1 rfl (lv_room (Nat.le_of_ble_eq_true rfl)) dX1_deepest_17 ⟨Nat.le_of_ble_eq_true rfl, Nat.le_of_ble_eq_true rfl⟩) (fun r1 h => ?_)
        try dsimp only at h
        refine rd_calli (va_runS (As := [.int r1]) (rest := []) ⟨hx, hb, hml, hown, hts⟩ (c_J6_bitCount_0f7a4 l D ca   r1 _ h) (va_cwS 1 hts gX1_deepest_J6_bitCount_0f7a4 rfl rfl rfl (by decide +kernel) ⟨Nat.le_of_ble_eq_true rfl, Nat.le_of_ble_eq_true rfl⟩) (PcX.preS hK (fun k q h => by simp at h)) rfl rfl hl.1 rfl (lv_room (Nat.le_of_ble_eq_true rfl)) dX1_deepest_20 ⟨Nat.le_of_ble_eq_true rfl, Nat.le_of_ble_eq_true rfl⟩) (fun r2 h => ?_)
        try dsimp only at h
        refine lv_istore (lv' := [(4, .int r2), (0, .ref (a 0)), (1, .int x1), (2, .int x2), (3, .int x3)]) hx hb dX1_deepest_23 hl (by decide) rfl (fun ls hl => ?_)
        refine lv_iload hx hb dX1_deepest_25 (lv_at hl 0 rfl) ?_
        refine lv_iload_n hx hb dX1_deepest_27 rfl (lv_at hl 3 rfl) ?_
        refine lv_icmp_le (tgt := 36) hx hb dX1_deepest_28 (by decide) (fun hc => ?_) (fun hc => ?_)
        · have h := h.1 hc
          refine lv_iinc (v := x3 + 1) (lv' := [(3, .int (x3 + 1)), (4, .int r2), (0, .ref (a 0)), (1, .int x1), (2, .int x2)]) hx hb dX1_deepest_36 hl (k := 4) rfl rfl (by decide) rfl (fun ls hl => ?_)
          refine lv_goto (tgt := 7) hx hb dX1_deepest_39 (by decide) ?_
          exact ih7 x1 x2 (x3 + 1) h ls (lv_sub hl [2, 3, 4, 0] rfl)
        · have h := h.2 hc
          refine lv_iload hx hb dX1_deepest_31 (lv_at hl 0 rfl) ?_
          refine lv_istore_n (lv' := [(2, .int r2), (4, .int r2), (0, .ref (a 0)), (1, .int x1), (3, .int x3)]) hx hb dX1_deepest_33 rfl hl (by decide) rfl (fun ls hl => ?_)
          refine lv_iload_n hx hb dX1_deepest_34 rfl (lv_at hl 4 rfl) ?_
          refine lv_istore_n (lv' := [(1, .int x3), (2, .int r2), (4, .int r2), (0, .ref (a 0)), (3, .int x3)]) hx hb dX1_deepest_35 rfl hl (by decide) rfl (fun ls hl => ?_)
          refine lv_iinc (v := x3 + 1) (lv' := [(3, .int (x3 + 1)), (1, .int x3), (2, .int r2), (4, .int r2), (0, .ref (a 0))]) hx hb dX1_deepest_36 hl (k := 4) rfl rfl (by decide) rfl (fun ls hl => ?_)
          refine lv_goto (tgt := 7) hx hb dX1_deepest_39 (by decide) ?_
          exact ih7 x3 r2 (x3 + 1) h ls (lv_sub hl [4, 1, 2, 0] rfl)
  unfold wp_X1_deepest at h
  refine lv_bipush (v := (-9)) hx hb dX1_deepest_0 (by decide) ?_
  refine lv_istore_n (lv' := [(1, .int (-9 : Int32)), (0, .ref (a 0))]) hx hb dX1_deepest_2 rfl hl (by decide) rfl (fun ls hl => ?_)
  refine lv_iconst (v := (-1)) hx hb dX1_deepest_3 (by decide) ?_
  refine lv_istore_n (lv' := [(2, .int (-1 : Int32)), (1, .int (-9 : Int32)), (0, .ref (a 0))]) hx hb dX1_deepest_4 rfl hl (by decide) rfl (fun ls hl => ?_)
  refine lv_iconst (v := (0)) hx hb dX1_deepest_5 (by decide) ?_
  refine lv_istore_n (lv' := [(3, .int (0 : Int32)), (2, .int (-1 : Int32)), (1, .int (-9 : Int32)), (0, .ref (a 0))]) hx hb dX1_deepest_6 rfl hl (by decide) rfl (fun ls hl => ?_)
  obtain ⟨zn, h⟩ := h
  exact w_7  zn (-9 : Int32) (-1 : Int32) (0 : Int32) h ls (lv_sub hl [3, 2, 1, 0] rfl)

-- IronedQuarrels$Heap.hasToGoAhead(I)Z
def wp_X1_hasToGoAhead (kinds : Nat → Int32) (answered : Nat → Int32) (size : Int32) (saidBits : Int32) (i : Int32) (post : Int32 → Prop) : Prop :=
  vp_in i 12 ∧ wp_X1_hasNumber size (answered i.toNatClampNeg) (fun r1 => (r1 = 0 → (post (0 : Int32))) ∧ (¬ r1 = 0 → (wp_X1_isSaid saidBits (answered i.toNatClampNeg) (fun r2 => (r2 = 0 → (post (0 : Int32))) ∧ (¬ r2 = 0 → (vp_in (answered i.toNatClampNeg) 12 ∧ ((kinds (answered i.toNatClampNeg).toNatClampNeg) = (4 : Int32) → (post (0 : Int32))) ∧ (¬ (kinds (answered i.toNatClampNeg).toNatClampNeg) = (4 : Int32) → (post (1 : Int32)))))))))
def rm_X1_hasToGoAhead : Room := { frames := 2, cells := 0, slots := 0, locals := 42 }
theorem k_X1_hasToGoAhead_1 : Cond.fieldLink RX1 27 "IronedQuarrels$Heap" "answered" "[I" ∈ wsX1_hasToGoAhead := List.mem_of_getElem? (i := 1) (by decide +kernel)
theorem k_X1_hasToGoAhead_2 : Cond.fieldLink RX1 9 "IronedQuarrels$Heap" "kinds" "[I" ∈ wsX1_hasToGoAhead := List.mem_of_getElem? (i := 2) (by decide +kernel)
theorem hi_X1_hasToGoAhead_X1 : ∀ w ∈ wsX10, w ∈ wsX1_hasToGoAhead := fun w h => List.mem_cons_of_mem _ (List.mem_append_right _ h)
set_option maxHeartbeats 4000000 in
set_option maxRecDepth 100000 in
theorem c_X1_hasToGoAhead (l : Launch) (D : va_G) (ca : Nat → ClassId) (a : Nat → Nat) (kinds : Nat → Int32) (whos : Nat → Int32) (toWhoms : Nat → Int32) (topics : Nat → Int32) (weights : Nat → Int32) (answered : Nat → Int32) (deeds : Nat → Int32) (size : Int32) (saidBits : Int32) (deedCount : Int32) (i : Int32) (post : Int32 → Prop) (h : wp_X1_hasToGoAhead kinds answered size saidBits i post) : Met l yX1_hasToGoAhead wsX1_hasToGoAhead rm_X1_hasToGoAhead (PcX D ca [.ref (a 0), .int i] (W_X1 ca a kinds whos toWhoms topics weights answered deeds size saidBits deedCount)) (rdZ post) 0 0 (fun _ => False) := by
  refine Met.ofW (cc := cX1_hasToGoAhead) (maxL := 3) (ret := (some .boolean)) (by decide) rfl ?_
  intro zp ze zs zm za zb zt zc z1 B hml hv
  obtain ⟨rfl, hP, hK⟩ := hv
  have hx := B.exec
  have hb := B.bytes
  have hr := B.returns
  have hts := atoms_spec (ws := wsX1_hasToGoAhead) B.pre
  have hown : zs.vm.findClass RX1 = some zm.cls := findClass_of_methodNamed B.named
  have hlocks := B.notSynchronized
  have hl := lv_entry ([.ref (a 0), .int i]) (n := 3) (Nat.le_of_ble_eq_true rfl)
  rw [lg_entry_eq]
  generalize (lg_sl ([.ref (a 0), .int i]) ++ List.replicate (3 - (lg_sl ([.ref (a 0), .int i])).length) Slot.unset).toArray = ls at hl ⊢
  replace hl : lv_has ls 3 [(0, .ref (a 0)), (1, .int i)] := hl
  show W zp l ze rm_X1_hasToGoAhead zs zm ([.ref (a 0), .int i] : List Value).toArray zb zt zc zs.heap [] 0 0 (MQ zb (rdZ post) ([.ref (a 0), .int i] : List Value).toArray zs 0 0 (fun _ => False)) (F0 zm 0 ls [])
  unfold wp_X1_hasToGoAhead at h
  refine lv_aload_n hx hb dX1_hasToGoAhead_0 rfl (lv_at hl 0 rfl) ?_
  refine va_get (D := D) (ci := 1) (v := .ref (a 6)) (C := RX1) (T := TX1) (N := 10) hx hb hts hi_X1_hasToGoAhead_X1 hown hK.1 hP 0 rfl rfl 5 (by decide) (hts _ k_X1_hasToGoAhead_1) (fun _ h9 => h9) rfl dX1_hasToGoAhead_1 ?_
  refine lv_iload_n hx hb dX1_hasToGoAhead_4 rfl (lv_at hl 1 rfl) ?_
  obtain ⟨hi, h⟩ := h
  refine x_iald (v := answered i.toNatClampNeg) hx hb hK hP 6 rfl hi rfl dX1_hasToGoAhead_5 ?_
  refine lv_istore_n (lv' := [(2, .int (answered i.toNatClampNeg)), (0, .ref (a 0)), (1, .int i)]) hx hb dX1_hasToGoAhead_6 rfl hl (by decide) rfl (fun ls hl => ?_)
  refine lv_aload_n hx hb dX1_hasToGoAhead_7 rfl (lv_at hl 1 rfl) ?_
  refine lv_iload_n hx hb dX1_hasToGoAhead_8 rfl (lv_at hl 0 rfl) ?_
  refine rd_callz (va_runV (As := [.int (answered i.toNatClampNeg)]) (rest := []) ⟨hx, hb, hml, hown, hts⟩ (c_X1_hasNumber l D ca a kinds whos toWhoms topics weights answered deeds size saidBits deedCount (answered i.toNatClampNeg) _ h) (cwV 1 hts gX1_hasToGoAhead_X1_hasNumber rfl rfl rfl (by decide +kernel) ⟨Nat.le_of_ble_eq_true rfl, Nat.le_of_ble_eq_true rfl⟩) (PcX.preV (q := (RX1, TX1, 10)) (ci := 1) (q0 := 0) hK hP rfl rfl hP) rfl rfl hl.1 rfl (lv_room (Nat.le_of_ble_eq_true rfl)) dX1_hasToGoAhead_9 ⟨Nat.le_of_ble_eq_true rfl, Nat.le_of_ble_eq_true rfl⟩) (fun r1 h hz_r1 => ?_)
  try dsimp only at h
  refine lv_if_eq (tgt := 37) hx hb dX1_hasToGoAhead_12 (by decide) (fun hc => ?_) (fun hc => ?_)
  · have h := h.1 hc
    refine lv_iconst (v := (0)) hx hb dX1_hasToGoAhead_37 (by decide) ?_
    exact W.zret (v := (0 : Int32)) hx hb hr nar0 (fun t ht hW => ⟨(0 : Int32), rfl, ⟨h, nar0⟩, ht⟩) (fun q hq => absurd hq List.not_mem_nil) dX1_hasToGoAhead_38
  · have h := h.2 hc
    refine lv_aload_n hx hb dX1_hasToGoAhead_15 rfl (lv_at hl 1 rfl) ?_
    refine lv_iload_n hx hb dX1_hasToGoAhead_16 rfl (lv_at hl 0 rfl) ?_
    refine rd_callz (va_runV (As := [.int (answered i.toNatClampNeg)]) (rest := []) ⟨hx, hb, hml, hown, hts⟩ (c_X1_isSaid l D ca a kinds whos toWhoms topics weights answered deeds size saidBits deedCount (answered i.toNatClampNeg) _ h) (cwV 1 hts gX1_hasToGoAhead_X1_isSaid rfl rfl rfl (by decide +kernel) ⟨Nat.le_of_ble_eq_true rfl, Nat.le_of_ble_eq_true rfl⟩) (PcX.preV (q := (RX1, TX1, 10)) (ci := 1) (q0 := 0) hK hP rfl rfl hP) rfl rfl hl.1 rfl (lv_room (Nat.le_of_ble_eq_true rfl)) dX1_hasToGoAhead_17 ⟨Nat.le_of_ble_eq_true rfl, Nat.le_of_ble_eq_true rfl⟩) (fun r2 h hz_r2 => ?_)
    try dsimp only at h
    refine lv_if_eq (tgt := 37) hx hb dX1_hasToGoAhead_20 (by decide) (fun hc => ?_) (fun hc => ?_)
    · have h := h.1 hc
      refine lv_iconst (v := (0)) hx hb dX1_hasToGoAhead_37 (by decide) ?_
      exact W.zret (v := (0 : Int32)) hx hb hr nar0 (fun t ht hW => ⟨(0 : Int32), rfl, ⟨h, nar0⟩, ht⟩) (fun q hq => absurd hq List.not_mem_nil) dX1_hasToGoAhead_38
    · have h := h.2 hc
      refine lv_aload_n hx hb dX1_hasToGoAhead_23 rfl (lv_at hl 1 rfl) ?_
      refine va_get (D := D) (ci := 1) (v := .ref (a 1)) (C := RX1) (T := TX1) (N := 10) hx hb hts hi_X1_hasToGoAhead_X1 hown hK.1 hP 0 rfl rfl 0 (by decide) (hts _ k_X1_hasToGoAhead_2) (fun _ h9 => h9) rfl dX1_hasToGoAhead_24 ?_
      refine lv_iload_n hx hb dX1_hasToGoAhead_27 rfl (lv_at hl 0 rfl) ?_
      obtain ⟨hi, h⟩ := h
      refine x_iald (v := kinds (answered i.toNatClampNeg).toNatClampNeg) hx hb hK hP 1 rfl hi rfl dX1_hasToGoAhead_28 ?_
      refine lv_iconst (v := (4)) hx hb dX1_hasToGoAhead_29 (by decide) ?_
      refine lv_icmp_eq (tgt := 37) hx hb dX1_hasToGoAhead_30 (by decide) (fun hc => ?_) (fun hc => ?_)
      · have h := h.1 hc
        refine lv_iconst (v := (0)) hx hb dX1_hasToGoAhead_37 (by decide) ?_
        exact W.zret (v := (0 : Int32)) hx hb hr nar0 (fun t ht hW => ⟨(0 : Int32), rfl, ⟨h, nar0⟩, ht⟩) (fun q hq => absurd hq List.not_mem_nil) dX1_hasToGoAhead_38
      · have h := h.2 hc
        refine lv_iconst (v := (1)) hx hb dX1_hasToGoAhead_33 (by decide) ?_
        refine lv_goto (tgt := 38) hx hb dX1_hasToGoAhead_34 (by decide) ?_
        exact W.zret (v := (1 : Int32)) hx hb hr nar1 (fun t ht hW => ⟨(1 : Int32), rfl, ⟨h, nar1⟩, ht⟩) (fun q hq => absurd hq List.not_mem_nil) dX1_hasToGoAhead_38

-- IronedQuarrels$Heap.hasToGoWith(I)I
def wb_X1_hasToGoWith_4 (kinds : Nat → Int32) (answered : Nat → Int32) (size : Int32) (saidBits : Int32) (post : Int32 → Prop) (K4 : (Int32) → (Int32) → Prop) (x2 : Int32) (x3 : Int32) : Prop :=
  (size ≤ x3 → (post x2)) ∧ (¬ size ≤ x3 → (wp_X1_isSaid saidBits x3 (fun r1 => (r1 = 0 → (K4 x2 (x3 + 1))) ∧ (¬ r1 = 0 → (wp_X1_hasToGoAhead kinds answered size saidBits x3 (fun r2 => (r2 = 0 → (K4 x2 (x3 + 1))) ∧ (¬ r2 = 0 → (vp_in x3 12 ∧ wp_X7_hasBit x2 (answered x3.toNatClampNeg) (fun r3 => (r3 = 0 → (K4 x2 (x3 + 1))) ∧ (¬ r3 = 0 → (wp_X7_bit x3 (fun r4 => K4 (x2 ||| r4) (x3 + 1)))))))))))))
def wl_X1_hasToGoWith_4 (kinds : Nat → Int32) (answered : Nat → Int32) (size : Int32) (saidBits : Int32) (post : Int32 → Prop) : Nat → (Int32) → (Int32) → Prop
  | 0 => fun _ _ => False
  | zn + 1 => wb_X1_hasToGoWith_4 kinds answered size saidBits post (wl_X1_hasToGoWith_4 kinds answered size saidBits post zn)
def wp_X1_hasToGoWith (kinds : Nat → Int32) (answered : Nat → Int32) (size : Int32) (saidBits : Int32) (these : Int32) (post : Int32 → Prop) : Prop :=
  ∃ zn, wl_X1_hasToGoWith_4 kinds answered size saidBits post zn these (0 : Int32)
def rm_X1_hasToGoWith : Room := { frames := 3, cells := 0, slots := 0, locals := 64 }
theorem k_X1_hasToGoWith_1 : Cond.fieldLink RX1 33 "IronedQuarrels$Heap" "size" "I" ∈ wsX1_hasToGoWith := List.mem_of_getElem? (i := 1) (by decide +kernel)
theorem k_X1_hasToGoWith_2 : Cond.fieldLink RX1 27 "IronedQuarrels$Heap" "answered" "[I" ∈ wsX1_hasToGoWith := List.mem_of_getElem? (i := 2) (by decide +kernel)
theorem k_X1_hasToGoWith_9 : Cond.static yX7_hasBit ∈ wsX1_hasToGoWith := List.mem_of_getElem? (i := 9) (by decide +kernel)
theorem k_X1_hasToGoWith_10 : Cond.initialized RX7 ∈ wsX1_hasToGoWith := List.mem_of_getElem? (i := 10) (by decide +kernel)
theorem k_X1_hasToGoWith_21 : Cond.static yX7_bit ∈ wsX1_hasToGoWith := List.mem_of_getElem? (i := 21) (by decide +kernel)
theorem hi_X1_hasToGoWith_X1 : ∀ w ∈ wsX10, w ∈ wsX1_hasToGoWith := fun w h => List.mem_cons_of_mem _ (List.mem_append_right _ h)
set_option maxHeartbeats 4000000 in
set_option maxRecDepth 100000 in
theorem c_X1_hasToGoWith (l : Launch) (D : va_G) (ca : Nat → ClassId) (a : Nat → Nat) (kinds : Nat → Int32) (whos : Nat → Int32) (toWhoms : Nat → Int32) (topics : Nat → Int32) (weights : Nat → Int32) (answered : Nat → Int32) (deeds : Nat → Int32) (size : Int32) (saidBits : Int32) (deedCount : Int32) (these : Int32) (post : Int32 → Prop) (h : wp_X1_hasToGoWith kinds answered size saidBits these post) : Met l yX1_hasToGoWith wsX1_hasToGoWith rm_X1_hasToGoWith (PcX D ca [.ref (a 0), .int these] (W_X1 ca a kinds whos toWhoms topics weights answered deeds size saidBits deedCount)) (rdI post) 0 0 (fun _ => False) := by
  refine Met.ofW (cc := cX1_hasToGoWith) (maxL := 4) (ret := (some .int)) (by decide) rfl ?_
  intro zp ze zs zm za zb zt zc z1 B hml hv
  obtain ⟨rfl, hP, hK⟩ := hv
  have hx := B.exec
  have hb := B.bytes
  have hr := B.returns
  have hts := atoms_spec (ws := wsX1_hasToGoWith) B.pre
  have hown : zs.vm.findClass RX1 = some zm.cls := findClass_of_methodNamed B.named
  have hlocks := B.notSynchronized
  have hl := lv_entry ([.ref (a 0), .int these]) (n := 4) (Nat.le_of_ble_eq_true rfl)
  rw [lg_entry_eq]
  generalize (lg_sl ([.ref (a 0), .int these]) ++ List.replicate (4 - (lg_sl ([.ref (a 0), .int these])).length) Slot.unset).toArray = ls at hl ⊢
  replace hl : lv_has ls 4 [(0, .ref (a 0)), (1, .int these)] := hl
  show W zp l ze rm_X1_hasToGoWith zs zm ([.ref (a 0), .int these] : List Value).toArray zb zt zc zs.heap [] 0 0 (MQ zb (rdI post) ([.ref (a 0), .int these] : List Value).toArray zs 0 0 (fun _ => False)) (F0 zm 0 ls [])
  have w_4 : ∀ (zn : Nat) (x2 : Int32) (x3 : Int32), wl_X1_hasToGoWith_4 kinds answered size saidBits post zn x2 x3 → ∀ ls : Array Slot, lv_has ls 4 [(0, .ref (a 0)), (2, .int x2), (3, .int x3)] → W zp l ze rm_X1_hasToGoWith zs zm ([.ref (a 0), .int these] : List Value).toArray zb zt zc zs.heap [] 0 0 (MQ zb (rdI post) ([.ref (a 0), .int these] : List Value).toArray zs 0 0 (fun _ => False)) (F0 zm 4 ls []) := by
    intro zn
    induction zn with
    | zero => intro x2 x3 h; exact h.elim
    | succ zn ih4 =>
      intro x2 x3 h ls hl
      replace h : wb_X1_hasToGoWith_4 kinds answered size saidBits post (wl_X1_hasToGoWith_4 kinds answered size saidBits post zn) x2 x3 := h
      unfold wb_X1_hasToGoWith_4 at h
      refine lv_iload_n hx hb dX1_hasToGoWith_4 rfl (lv_at hl 2 rfl) ?_
      refine lv_aload_n hx hb dX1_hasToGoWith_5 rfl (lv_at hl 0 rfl) ?_
      refine va_get (D := D) (ci := 1) (v := .int size) (C := RX1) (T := TX1) (N := 10) hx hb hts hi_X1_hasToGoWith_X1 hown hK.1 hP 0 rfl rfl 7 (by decide) (hts _ k_X1_hasToGoWith_1) (fun _ h9 => h9) rfl dX1_hasToGoWith_6 ?_
      refine lv_icmp_ge (tgt := 54) hx hb dX1_hasToGoWith_9 (by decide) (fun hc => ?_) (fun hc => ?_)
      · have h := h.1 hc
        refine lv_iload_n hx hb dX1_hasToGoWith_54 rfl (lv_at hl 1 rfl) ?_
        exact W.iret (v := x2) hx hb hr (fun t ht hW => ⟨x2, rfl, h, ht⟩) (fun q hq => absurd hq List.not_mem_nil) dX1_hasToGoWith_55
      · have h := h.2 hc
        refine lv_aload_n hx hb dX1_hasToGoWith_12 rfl (lv_at hl 0 rfl) ?_
        refine lv_iload_n hx hb dX1_hasToGoWith_13 rfl (lv_at hl 2 rfl) ?_
        refine rd_callz (va_runV (As := [.int x3]) (rest := []) ⟨hx, hb, hml, hown, hts⟩ (c_X1_isSaid l D ca a kinds whos toWhoms topics weights answered deeds size saidBits deedCount x3 _ h) (cwV 1 hts gX1_hasToGoWith_X1_isSaid rfl rfl rfl (by decide +kernel) ⟨Nat.le_of_ble_eq_true rfl, Nat.le_of_ble_eq_true rfl⟩) (PcX.preV (q := (RX1, TX1, 10)) (ci := 1) (q0 := 0) hK hP rfl rfl hP) rfl rfl hl.1 rfl (lv_room (Nat.le_of_ble_eq_true rfl)) dX1_hasToGoWith_14 ⟨Nat.le_of_ble_eq_true rfl, Nat.le_of_ble_eq_true rfl⟩) (fun r1 h hz_r1 => ?_)
        try dsimp only at h
        refine lv_if_eq (tgt := 48) hx hb dX1_hasToGoWith_17 (by decide) (fun hc => ?_) (fun hc => ?_)
        · have h := h.1 hc
          refine lv_iinc (v := x3 + 1) (lv' := [(3, .int (x3 + 1)), (0, .ref (a 0)), (2, .int x2)]) hx hb dX1_hasToGoWith_48 hl (k := 2) rfl rfl (by decide) rfl (fun ls hl => ?_)
          refine lv_goto (tgt := 4) hx hb dX1_hasToGoWith_51 (by decide) ?_
          exact ih4 x2 (x3 + 1) h ls (lv_sub hl [1, 2, 0] rfl)
        · have h := h.2 hc
          refine lv_aload_n hx hb dX1_hasToGoWith_20 rfl (lv_at hl 0 rfl) ?_
          refine lv_iload_n hx hb dX1_hasToGoWith_21 rfl (lv_at hl 2 rfl) ?_
          refine rd_callz (va_runV (As := [.int x3]) (rest := []) ⟨hx, hb, hml, hown, hts⟩ (c_X1_hasToGoAhead l D ca a kinds whos toWhoms topics weights answered deeds size saidBits deedCount x3 _ h) (cwV 1 hts gX1_hasToGoWith_X1_hasToGoAhead rfl rfl rfl (by decide +kernel) ⟨Nat.le_of_ble_eq_true rfl, Nat.le_of_ble_eq_true rfl⟩) (PcX.preV (q := (RX1, TX1, 10)) (ci := 1) (q0 := 0) hK hP rfl rfl hP) rfl rfl hl.1 rfl (lv_room (Nat.le_of_ble_eq_true rfl)) dX1_hasToGoWith_22 ⟨Nat.le_of_ble_eq_true rfl, Nat.le_of_ble_eq_true rfl⟩) (fun r2 h hz_r2 => ?_)
          try dsimp only at h
          refine lv_if_eq (tgt := 48) hx hb dX1_hasToGoWith_25 (by decide) (fun hc => ?_) (fun hc => ?_)
          · have h := h.1 hc
            refine lv_iinc (v := x3 + 1) (lv' := [(3, .int (x3 + 1)), (0, .ref (a 0)), (2, .int x2)]) hx hb dX1_hasToGoWith_48 hl (k := 2) rfl rfl (by decide) rfl (fun ls hl => ?_)
            refine lv_goto (tgt := 4) hx hb dX1_hasToGoWith_51 (by decide) ?_
            exact ih4 x2 (x3 + 1) h ls (lv_sub hl [1, 2, 0] rfl)
          · have h := h.2 hc
            refine lv_iload_n hx hb dX1_hasToGoWith_28 rfl (lv_at hl 1 rfl) ?_
            refine lv_aload_n hx hb dX1_hasToGoWith_29 rfl (lv_at hl 0 rfl) ?_
            refine va_get (D := D) (ci := 1) (v := .ref (a 6)) (C := RX1) (T := TX1) (N := 10) hx hb hts hi_X1_hasToGoWith_X1 hown hK.1 hP 0 rfl rfl 5 (by decide) (hts _ k_X1_hasToGoWith_2) (fun _ h9 => h9) rfl dX1_hasToGoWith_30 ?_
            refine lv_iload_n hx hb dX1_hasToGoWith_33 rfl (lv_at hl 2 rfl) ?_
            obtain ⟨hi, h⟩ := h
            refine x_iald (v := answered x3.toNatClampNeg) hx hb hK hP 6 rfl hi rfl dX1_hasToGoWith_34 ?_
            refine rd_callz (va_runSN (As := [.int x2, .int (answered x3.toNatClampNeg)]) (rest := []) ⟨hx, hb, hml, hown, hts⟩ (c_X7_hasBit l D ca   x2 (answered x3.toNatClampNeg) _ h) ⟨va_cnB 2 hts gX1_hasToGoWith_X7_hasBit_n57 rfl rfl rfl (hK.2 (RX1, 57, yX7_hasBit, "IronedQuarrels") (List.mem_of_getElem? (i := 6) rfl)) (hts _ k_X1_hasToGoWith_10) (by decide +kernel) ⟨Nat.le_of_ble_eq_true rfl, Nat.le_of_ble_eq_true rfl⟩, hts _ k_X1_hasToGoWith_9, trivial⟩ (PcX.preS hK (fun k q h => by simp at h)) rfl rfl hl.1 rfl (lv_room (Nat.le_of_ble_eq_true rfl)) dX1_hasToGoWith_35 ⟨Nat.le_of_ble_eq_true rfl, Nat.le_of_ble_eq_true rfl⟩) (fun r3 h hz_r3 => ?_)
            try dsimp only at h
            refine lv_if_eq (tgt := 48) hx hb dX1_hasToGoWith_38 (by decide) (fun hc => ?_) (fun hc => ?_)
            · have h := h.1 hc
              refine lv_iinc (v := x3 + 1) (lv' := [(3, .int (x3 + 1)), (0, .ref (a 0)), (2, .int x2)]) hx hb dX1_hasToGoWith_48 hl (k := 2) rfl rfl (by decide) rfl (fun ls hl => ?_)
              refine lv_goto (tgt := 4) hx hb dX1_hasToGoWith_51 (by decide) ?_
              exact ih4 x2 (x3 + 1) h ls (lv_sub hl [1, 2, 0] rfl)
            · have h := h.2 hc
              refine lv_iload_n hx hb dX1_hasToGoWith_41 rfl (lv_at hl 1 rfl) ?_
              refine lv_iload_n hx hb dX1_hasToGoWith_42 rfl (lv_at hl 2 rfl) ?_
              refine rd_calli (va_runSN (As := [.int x3]) (rest := [.int x2]) ⟨hx, hb, hml, hown, hts⟩ (c_X7_bit l D ca   x3 _ h) ⟨va_cnB 1 hts gX1_hasToGoWith_X7_bit_n53 rfl rfl rfl (hK.2 (RX1, 53, yX7_bit, "IronedQuarrels") (List.mem_of_getElem? (i := 5) rfl)) (hts _ k_X1_hasToGoWith_10) (by decide +kernel) ⟨Nat.le_of_ble_eq_true rfl, Nat.le_of_ble_eq_true rfl⟩, hts _ k_X1_hasToGoWith_21, trivial⟩ (PcX.preS hK (fun k q h => by simp at h)) rfl rfl hl.1 rfl (lv_room (Nat.le_of_ble_eq_true rfl)) dX1_hasToGoWith_43 ⟨Nat.le_of_ble_eq_true rfl, Nat.le_of_ble_eq_true rfl⟩) (fun r4 h => ?_)
              try dsimp only at h
              refine lv_ior hx hb dX1_hasToGoWith_46 ?_
              refine lv_istore_n (lv' := [(2, .int (x2 ||| r4)), (0, .ref (a 0)), (3, .int x3)]) hx hb dX1_hasToGoWith_47 rfl hl (by decide) rfl (fun ls hl => ?_)
              refine lv_iinc (v := x3 + 1) (lv' := [(3, .int (x3 + 1)), (2, .int (x2 ||| r4)), (0, .ref (a 0))]) hx hb dX1_hasToGoWith_48 hl (k := 2) rfl rfl (by decide) rfl (fun ls hl => ?_)
              refine lv_goto (tgt := 4) hx hb dX1_hasToGoWith_51 (by decide) ?_
              exact ih4 (x2 ||| r4) (x3 + 1) h ls (lv_sub hl [2, 1, 0] rfl)
  unfold wp_X1_hasToGoWith at h
  refine lv_iload_n hx hb dX1_hasToGoWith_0 rfl (lv_at hl 1 rfl) ?_
  refine lv_istore_n (lv' := [(2, .int these), (0, .ref (a 0)), (1, .int these)]) hx hb dX1_hasToGoWith_1 rfl hl (by decide) rfl (fun ls hl => ?_)
  refine lv_iconst (v := (0)) hx hb dX1_hasToGoWith_2 (by decide) ?_
  refine lv_istore_n (lv' := [(3, .int (0 : Int32)), (2, .int these), (0, .ref (a 0)), (1, .int these)]) hx hb dX1_hasToGoWith_3 rfl hl (by decide) rfl (fun ls hl => ?_)
  obtain ⟨zn, h⟩ := h
  exact w_4  zn these (0 : Int32) h ls (lv_sub hl [2, 1, 0] rfl)

-- IronedQuarrels$Heap.personsOfSaid()I
def wb_X1_personsOfSaid_4 (whos : Nat → Int32) (toWhoms : Nat → Int32) (size : Int32) (saidBits : Int32) (post : Int32 → Prop) (K4 : (Int32) → (Int32) → Prop) (x1 : Int32) (x2 : Int32) : Prop :=
  (size ≤ x2 → (post x1)) ∧ (¬ size ≤ x2 → (wp_X1_isSaid saidBits x2 (fun r1 => (r1 = 0 → (K4 x1 (x2 + 1))) ∧ (¬ r1 = 0 → (vp_in x2 12 ∧ wp_X7_bit (whos x2.toNatClampNeg) (fun r2 => vp_in x2 12 ∧ wp_X7_bit (toWhoms x2.toNatClampNeg) (fun r3 => K4 (x1 ||| (r2 ||| r3)) (x2 + 1))))))))
def wl_X1_personsOfSaid_4 (whos : Nat → Int32) (toWhoms : Nat → Int32) (size : Int32) (saidBits : Int32) (post : Int32 → Prop) : Nat → (Int32) → (Int32) → Prop
  | 0 => fun _ _ => False
  | zn + 1 => wb_X1_personsOfSaid_4 whos toWhoms size saidBits post (wl_X1_personsOfSaid_4 whos toWhoms size saidBits post zn)
def wp_X1_personsOfSaid (whos : Nat → Int32) (toWhoms : Nat → Int32) (size : Int32) (saidBits : Int32) (post : Int32 → Prop) : Prop :=
  ∃ zn, wl_X1_personsOfSaid_4 whos toWhoms size saidBits post zn (0 : Int32) (0 : Int32)
def rm_X1_personsOfSaid : Room := { frames := 2, cells := 0, slots := 0, locals := 42 }
theorem k_X1_personsOfSaid_1 : Cond.fieldLink RX1 33 "IronedQuarrels$Heap" "size" "I" ∈ wsX1_personsOfSaid := List.mem_of_getElem? (i := 1) (by decide +kernel)
theorem k_X1_personsOfSaid_2 : Cond.fieldLink RX1 15 "IronedQuarrels$Heap" "whos" "[I" ∈ wsX1_personsOfSaid := List.mem_of_getElem? (i := 2) (by decide +kernel)
theorem k_X1_personsOfSaid_3 : Cond.fieldLink RX1 18 "IronedQuarrels$Heap" "toWhoms" "[I" ∈ wsX1_personsOfSaid := List.mem_of_getElem? (i := 3) (by decide +kernel)
theorem k_X1_personsOfSaid_11 : Cond.initialized RX7 ∈ wsX1_personsOfSaid := List.mem_of_getElem? (i := 11) (by decide +kernel)
theorem k_X1_personsOfSaid_13 : Cond.static yX7_bit ∈ wsX1_personsOfSaid := List.mem_of_getElem? (i := 13) (by decide +kernel)
theorem hi_X1_personsOfSaid_X1 : ∀ w ∈ wsX10, w ∈ wsX1_personsOfSaid := fun w h => List.mem_cons_of_mem _ (List.mem_append_right _ h)
set_option maxHeartbeats 4000000 in
set_option maxRecDepth 100000 in
theorem c_X1_personsOfSaid (l : Launch) (D : va_G) (ca : Nat → ClassId) (a : Nat → Nat) (kinds : Nat → Int32) (whos : Nat → Int32) (toWhoms : Nat → Int32) (topics : Nat → Int32) (weights : Nat → Int32) (answered : Nat → Int32) (deeds : Nat → Int32) (size : Int32) (saidBits : Int32) (deedCount : Int32)  (post : Int32 → Prop) (h : wp_X1_personsOfSaid whos toWhoms size saidBits post) : Met l yX1_personsOfSaid wsX1_personsOfSaid rm_X1_personsOfSaid (PcX D ca [.ref (a 0)] (W_X1 ca a kinds whos toWhoms topics weights answered deeds size saidBits deedCount)) (rdI post) 0 0 (fun _ => False) := by
  refine Met.ofW (cc := cX1_personsOfSaid) (maxL := 3) (ret := (some .int)) (by decide) rfl ?_
  intro zp ze zs zm za zb zt zc z1 B hml hv
  obtain ⟨rfl, hP, hK⟩ := hv
  have hx := B.exec
  have hb := B.bytes
  have hr := B.returns
  have hts := atoms_spec (ws := wsX1_personsOfSaid) B.pre
  have hown : zs.vm.findClass RX1 = some zm.cls := findClass_of_methodNamed B.named
  have hlocks := B.notSynchronized
  have hl := lv_entry ([.ref (a 0)]) (n := 3) (Nat.le_of_ble_eq_true rfl)
  rw [lg_entry_eq]
  generalize (lg_sl ([.ref (a 0)]) ++ List.replicate (3 - (lg_sl ([.ref (a 0)])).length) Slot.unset).toArray = ls at hl ⊢
  replace hl : lv_has ls 3 [(0, .ref (a 0))] := hl
  show W zp l ze rm_X1_personsOfSaid zs zm ([.ref (a 0)] : List Value).toArray zb zt zc zs.heap [] 0 0 (MQ zb (rdI post) ([.ref (a 0)] : List Value).toArray zs 0 0 (fun _ => False)) (F0 zm 0 ls [])
  have w_4 : ∀ (zn : Nat) (x1 : Int32) (x2 : Int32), wl_X1_personsOfSaid_4 whos toWhoms size saidBits post zn x1 x2 → ∀ ls : Array Slot, lv_has ls 3 [(0, .ref (a 0)), (1, .int x1), (2, .int x2)] → W zp l ze rm_X1_personsOfSaid zs zm ([.ref (a 0)] : List Value).toArray zb zt zc zs.heap [] 0 0 (MQ zb (rdI post) ([.ref (a 0)] : List Value).toArray zs 0 0 (fun _ => False)) (F0 zm 4 ls []) := by
    intro zn
    induction zn with
    | zero => intro x1 x2 h; exact h.elim
    | succ zn ih4 =>
      intro x1 x2 h ls hl
      replace h : wb_X1_personsOfSaid_4 whos toWhoms size saidBits post (wl_X1_personsOfSaid_4 whos toWhoms size saidBits post zn) x1 x2 := h
      unfold wb_X1_personsOfSaid_4 at h
      refine lv_iload_n hx hb dX1_personsOfSaid_4 rfl (lv_at hl 2 rfl) ?_
      refine lv_aload_n hx hb dX1_personsOfSaid_5 rfl (lv_at hl 0 rfl) ?_
      refine va_get (D := D) (ci := 1) (v := .int size) (C := RX1) (T := TX1) (N := 10) hx hb hts hi_X1_personsOfSaid_X1 hown hK.1 hP 0 rfl rfl 7 (by decide) (hts _ k_X1_personsOfSaid_1) (fun _ h9 => h9) rfl dX1_personsOfSaid_6 ?_
      refine lv_icmp_ge (tgt := 48) hx hb dX1_personsOfSaid_9 (by decide) (fun hc => ?_) (fun hc => ?_)
      · have h := h.1 hc
        refine lv_iload_n hx hb dX1_personsOfSaid_48 rfl (lv_at hl 1 rfl) ?_
        exact W.iret (v := x1) hx hb hr (fun t ht hW => ⟨x1, rfl, h, ht⟩) (fun q hq => absurd hq List.not_mem_nil) dX1_personsOfSaid_49
      · have h := h.2 hc
        refine lv_aload_n hx hb dX1_personsOfSaid_12 rfl (lv_at hl 0 rfl) ?_
        refine lv_iload_n hx hb dX1_personsOfSaid_13 rfl (lv_at hl 2 rfl) ?_
        refine rd_callz (va_runV (As := [.int x2]) (rest := []) ⟨hx, hb, hml, hown, hts⟩ (c_X1_isSaid l D ca a kinds whos toWhoms topics weights answered deeds size saidBits deedCount x2 _ h) (cwV 1 hts gX1_personsOfSaid_X1_isSaid rfl rfl rfl (by decide +kernel) ⟨Nat.le_of_ble_eq_true rfl, Nat.le_of_ble_eq_true rfl⟩) (PcX.preV (q := (RX1, TX1, 10)) (ci := 1) (q0 := 0) hK hP rfl rfl hP) rfl rfl hl.1 rfl (lv_room (Nat.le_of_ble_eq_true rfl)) dX1_personsOfSaid_14 ⟨Nat.le_of_ble_eq_true rfl, Nat.le_of_ble_eq_true rfl⟩) (fun r1 h hz_r1 => ?_)
        try dsimp only at h
        refine lv_if_eq (tgt := 42) hx hb dX1_personsOfSaid_17 (by decide) (fun hc => ?_) (fun hc => ?_)
        · have h := h.1 hc
          refine lv_iinc (v := x2 + 1) (lv' := [(2, .int (x2 + 1)), (0, .ref (a 0)), (1, .int x1)]) hx hb dX1_personsOfSaid_42 hl (k := 2) rfl rfl (by decide) rfl (fun ls hl => ?_)
          refine lv_goto (tgt := 4) hx hb dX1_personsOfSaid_45 (by decide) ?_
          exact ih4 x1 (x2 + 1) h ls (lv_sub hl [1, 2, 0] rfl)
        · have h := h.2 hc
          refine lv_iload_n hx hb dX1_personsOfSaid_20 rfl (lv_at hl 1 rfl) ?_
          refine lv_aload_n hx hb dX1_personsOfSaid_21 rfl (lv_at hl 0 rfl) ?_
          refine va_get (D := D) (ci := 1) (v := .ref (a 2)) (C := RX1) (T := TX1) (N := 10) hx hb hts hi_X1_personsOfSaid_X1 hown hK.1 hP 0 rfl rfl 1 (by decide) (hts _ k_X1_personsOfSaid_2) (fun _ h9 => h9) rfl dX1_personsOfSaid_22 ?_
          refine lv_iload_n hx hb dX1_personsOfSaid_25 rfl (lv_at hl 2 rfl) ?_
          obtain ⟨hi, h⟩ := h
          refine x_iald (v := whos x2.toNatClampNeg) hx hb hK hP 2 rfl hi rfl dX1_personsOfSaid_26 ?_
          refine rd_calli (va_runSN (As := [.int (whos x2.toNatClampNeg)]) (rest := [.int x1]) ⟨hx, hb, hml, hown, hts⟩ (c_X7_bit l D ca   (whos x2.toNatClampNeg) _ h) ⟨va_cnB 1 hts gX1_personsOfSaid_X7_bit_n53 rfl rfl rfl (hK.2 (RX1, 53, yX7_bit, "IronedQuarrels") (List.mem_of_getElem? (i := 5) rfl)) (hts _ k_X1_personsOfSaid_11) (by decide +kernel) ⟨Nat.le_of_ble_eq_true rfl, Nat.le_of_ble_eq_true rfl⟩, hts _ k_X1_personsOfSaid_13, trivial⟩ (PcX.preS hK (fun k q h => by simp at h)) rfl rfl hl.1 rfl (lv_room (Nat.le_of_ble_eq_true rfl)) dX1_personsOfSaid_27 ⟨Nat.le_of_ble_eq_true rfl, Nat.le_of_ble_eq_true rfl⟩) (fun r2 h => ?_)
          try dsimp only at h
          refine lv_aload_n hx hb dX1_personsOfSaid_30 rfl (lv_at hl 0 rfl) ?_
          refine va_get (D := D) (ci := 1) (v := .ref (a 3)) (C := RX1) (T := TX1) (N := 10) hx hb hts hi_X1_personsOfSaid_X1 hown hK.1 hP 0 rfl rfl 2 (by decide) (hts _ k_X1_personsOfSaid_3) (fun _ h9 => h9) rfl dX1_personsOfSaid_31 ?_
          refine lv_iload_n hx hb dX1_personsOfSaid_34 rfl (lv_at hl 2 rfl) ?_
          obtain ⟨hi, h⟩ := h
          refine x_iald (v := toWhoms x2.toNatClampNeg) hx hb hK hP 3 rfl hi rfl dX1_personsOfSaid_35 ?_
          refine rd_calli (va_runSN (As := [.int (toWhoms x2.toNatClampNeg)]) (rest := [.int r2, .int x1]) ⟨hx, hb, hml, hown, hts⟩ (c_X7_bit l D ca   (toWhoms x2.toNatClampNeg) _ h) ⟨va_cnB 1 hts gX1_personsOfSaid_X7_bit_n53 rfl rfl rfl (hK.2 (RX1, 53, yX7_bit, "IronedQuarrels") (List.mem_of_getElem? (i := 5) rfl)) (hts _ k_X1_personsOfSaid_11) (by decide +kernel) ⟨Nat.le_of_ble_eq_true rfl, Nat.le_of_ble_eq_true rfl⟩, hts _ k_X1_personsOfSaid_13, trivial⟩ (PcX.preS hK (fun k q h => by simp at h)) rfl rfl hl.1 rfl (lv_room (Nat.le_of_ble_eq_true rfl)) dX1_personsOfSaid_36 ⟨Nat.le_of_ble_eq_true rfl, Nat.le_of_ble_eq_true rfl⟩) (fun r3 h => ?_)
          try dsimp only at h
          refine lv_ior hx hb dX1_personsOfSaid_39 ?_
          refine lv_ior hx hb dX1_personsOfSaid_40 ?_
          refine lv_istore_n (lv' := [(1, .int (x1 ||| (r2 ||| r3))), (0, .ref (a 0)), (2, .int x2)]) hx hb dX1_personsOfSaid_41 rfl hl (by decide) rfl (fun ls hl => ?_)
          refine lv_iinc (v := x2 + 1) (lv' := [(2, .int (x2 + 1)), (1, .int (x1 ||| (r2 ||| r3))), (0, .ref (a 0))]) hx hb dX1_personsOfSaid_42 hl (k := 2) rfl rfl (by decide) rfl (fun ls hl => ?_)
          refine lv_goto (tgt := 4) hx hb dX1_personsOfSaid_45 (by decide) ?_
          exact ih4 (x1 ||| (r2 ||| r3)) (x2 + 1) h ls (lv_sub hl [2, 1, 0] rfl)
  unfold wp_X1_personsOfSaid at h
  refine lv_iconst (v := (0)) hx hb dX1_personsOfSaid_0 (by decide) ?_
  refine lv_istore_n (lv' := [(1, .int (0 : Int32)), (0, .ref (a 0))]) hx hb dX1_personsOfSaid_1 rfl hl (by decide) rfl (fun ls hl => ?_)
  refine lv_iconst (v := (0)) hx hb dX1_personsOfSaid_2 (by decide) ?_
  refine lv_istore_n (lv' := [(2, .int (0 : Int32)), (1, .int (0 : Int32)), (0, .ref (a 0))]) hx hb dX1_personsOfSaid_3 rfl hl (by decide) rfl (fun ls hl => ?_)
  obtain ⟨zn, h⟩ := h
  exact w_4  zn (0 : Int32) (0 : Int32) h ls (lv_sub hl [2, 1, 0] rfl)

-- IronedQuarrels$Heap.isBeginning(I)Z
def wp_X1_isBeginning (answered : Nat → Int32) (size : Int32) (i : Int32) (post : Int32 → Prop) : Prop :=
  vp_in i 12 ∧ wp_X1_hasNumber size (answered i.toNatClampNeg) (fun r1 => (¬ r1 = 0 → (post (0 : Int32))) ∧ (r1 = 0 → (post (1 : Int32))))
def rm_X1_isBeginning : Room := { frames := 1, cells := 0, slots := 0, locals := 21 }
theorem k_X1_isBeginning_1 : Cond.fieldLink RX1 27 "IronedQuarrels$Heap" "answered" "[I" ∈ wsX1_isBeginning := List.mem_of_getElem? (i := 1) (by decide +kernel)
theorem hi_X1_isBeginning_X1 : ∀ w ∈ wsX10, w ∈ wsX1_isBeginning := fun w h => List.mem_cons_of_mem _ (List.mem_append_right _ h)
set_option maxHeartbeats 4000000 in
set_option maxRecDepth 100000 in
theorem c_X1_isBeginning (l : Launch) (D : va_G) (ca : Nat → ClassId) (a : Nat → Nat) (kinds : Nat → Int32) (whos : Nat → Int32) (toWhoms : Nat → Int32) (topics : Nat → Int32) (weights : Nat → Int32) (answered : Nat → Int32) (deeds : Nat → Int32) (size : Int32) (saidBits : Int32) (deedCount : Int32) (i : Int32) (post : Int32 → Prop) (h : wp_X1_isBeginning answered size i post) : Met l yX1_isBeginning wsX1_isBeginning rm_X1_isBeginning (PcX D ca [.ref (a 0), .int i] (W_X1 ca a kinds whos toWhoms topics weights answered deeds size saidBits deedCount)) (rdZ post) 0 0 (fun _ => False) := by
  refine Met.ofW (cc := cX1_isBeginning) (maxL := 2) (ret := (some .boolean)) (by decide) rfl ?_
  intro zp ze zs zm za zb zt zc z1 B hml hv
  obtain ⟨rfl, hP, hK⟩ := hv
  have hx := B.exec
  have hb := B.bytes
  have hr := B.returns
  have hts := atoms_spec (ws := wsX1_isBeginning) B.pre
  have hown : zs.vm.findClass RX1 = some zm.cls := findClass_of_methodNamed B.named
  have hlocks := B.notSynchronized
  have hl := lv_entry ([.ref (a 0), .int i]) (n := 2) (Nat.le_of_ble_eq_true rfl)
  rw [lg_entry_eq]
  generalize (lg_sl ([.ref (a 0), .int i]) ++ List.replicate (2 - (lg_sl ([.ref (a 0), .int i])).length) Slot.unset).toArray = ls at hl ⊢
  replace hl : lv_has ls 2 [(0, .ref (a 0)), (1, .int i)] := hl
  show W zp l ze rm_X1_isBeginning zs zm ([.ref (a 0), .int i] : List Value).toArray zb zt zc zs.heap [] 0 0 (MQ zb (rdZ post) ([.ref (a 0), .int i] : List Value).toArray zs 0 0 (fun _ => False)) (F0 zm 0 ls [])
  unfold wp_X1_isBeginning at h
  refine lv_aload_n hx hb dX1_isBeginning_0 rfl (lv_at hl 0 rfl) ?_
  refine lv_aload_n hx hb dX1_isBeginning_1 rfl (lv_at hl 0 rfl) ?_
  refine va_get (D := D) (ci := 1) (v := .ref (a 6)) (C := RX1) (T := TX1) (N := 10) hx hb hts hi_X1_isBeginning_X1 hown hK.1 hP 0 rfl rfl 5 (by decide) (hts _ k_X1_isBeginning_1) (fun _ h9 => h9) rfl dX1_isBeginning_2 ?_
  refine lv_iload_n hx hb dX1_isBeginning_5 rfl (lv_at hl 1 rfl) ?_
  obtain ⟨hi, h⟩ := h
  refine x_iald (v := answered i.toNatClampNeg) hx hb hK hP 6 rfl hi rfl dX1_isBeginning_6 ?_
  refine rd_callz (va_runV (As := [.int (answered i.toNatClampNeg)]) (rest := []) ⟨hx, hb, hml, hown, hts⟩ (c_X1_hasNumber l D ca a kinds whos toWhoms topics weights answered deeds size saidBits deedCount (answered i.toNatClampNeg) _ h) (cwV 1 hts gX1_isBeginning_X1_hasNumber rfl rfl rfl (by decide +kernel) ⟨Nat.le_of_ble_eq_true rfl, Nat.le_of_ble_eq_true rfl⟩) (PcX.preV (q := (RX1, TX1, 10)) (ci := 1) (q0 := 0) hK hP rfl rfl hP) rfl rfl hl.1 rfl (lv_room (Nat.le_of_ble_eq_true rfl)) dX1_isBeginning_7 ⟨Nat.le_of_ble_eq_true rfl, Nat.le_of_ble_eq_true rfl⟩) (fun r1 h hz_r1 => ?_)
  try dsimp only at h
  refine lv_if_ne (tgt := 17) hx hb dX1_isBeginning_10 (by decide) (fun hc => ?_) (fun hc => ?_)
  · have h := h.1 hc
    refine lv_iconst (v := (0)) hx hb dX1_isBeginning_17 (by decide) ?_
    exact W.zret (v := (0 : Int32)) hx hb hr nar0 (fun t ht hW => ⟨(0 : Int32), rfl, ⟨h, nar0⟩, ht⟩) (fun q hq => absurd hq List.not_mem_nil) dX1_isBeginning_18
  · have h := h.2 hc
    refine lv_iconst (v := (1)) hx hb dX1_isBeginning_13 (by decide) ?_
    refine lv_goto (tgt := 18) hx hb dX1_isBeginning_14 (by decide) ?_
    exact W.zret (v := (1 : Int32)) hx hb hr nar1 (fun t ht hW => ⟨(1 : Int32), rfl, ⟨h, nar1⟩, ht⟩) (fun q hq => absurd hq List.not_mem_nil) dX1_isBeginning_18

-- IronedQuarrels$Heap.saidBeginnings(II)I
def wb_X1_saidBeginnings_5 (whos : Nat → Int32) (toWhoms : Nat → Int32) (answered : Nat → Int32) (size : Int32) (saidBits : Int32) (who : Int32) (toWhom : Int32) (post : Int32 → Prop) (K5 : (Int32) → (Int32) → Prop) (x3 : Int32) (x4 : Int32) : Prop :=
  (size ≤ x4 → (post x3)) ∧ (¬ size ≤ x4 → (wp_X1_isSaid saidBits x4 (fun r1 => (r1 = 0 → (K5 x3 (x4 + 1))) ∧ (¬ r1 = 0 → (wp_X1_isBeginning answered size x4 (fun r2 => (r2 = 0 → (K5 x3 (x4 + 1))) ∧ (¬ r2 = 0 → (vp_in x4 12 ∧ (¬ (whos x4.toNatClampNeg) = who → (K5 x3 (x4 + 1))) ∧ ((whos x4.toNatClampNeg) = who → (vp_in x4 12 ∧ (¬ (toWhoms x4.toNatClampNeg) = toWhom → (K5 x3 (x4 + 1))) ∧ ((toWhoms x4.toNatClampNeg) = toWhom → (K5 (x3 + 1) (x4 + 1)))))))))))))
def wl_X1_saidBeginnings_5 (whos : Nat → Int32) (toWhoms : Nat → Int32) (answered : Nat → Int32) (size : Int32) (saidBits : Int32) (who : Int32) (toWhom : Int32) (post : Int32 → Prop) : Nat → (Int32) → (Int32) → Prop
  | 0 => fun _ _ => False
  | zn + 1 => wb_X1_saidBeginnings_5 whos toWhoms answered size saidBits who toWhom post (wl_X1_saidBeginnings_5 whos toWhoms answered size saidBits who toWhom post zn)
def wp_X1_saidBeginnings (whos : Nat → Int32) (toWhoms : Nat → Int32) (answered : Nat → Int32) (size : Int32) (saidBits : Int32) (who : Int32) (toWhom : Int32) (post : Int32 → Prop) : Prop :=
  ∃ zn, wl_X1_saidBeginnings_5 whos toWhoms answered size saidBits who toWhom post zn (0 : Int32) (0 : Int32)
def rm_X1_saidBeginnings : Room := { frames := 2, cells := 0, slots := 0, locals := 42 }
theorem k_X1_saidBeginnings_1 : Cond.fieldLink RX1 33 "IronedQuarrels$Heap" "size" "I" ∈ wsX1_saidBeginnings := List.mem_of_getElem? (i := 1) (by decide +kernel)
theorem k_X1_saidBeginnings_2 : Cond.fieldLink RX1 15 "IronedQuarrels$Heap" "whos" "[I" ∈ wsX1_saidBeginnings := List.mem_of_getElem? (i := 2) (by decide +kernel)
theorem k_X1_saidBeginnings_3 : Cond.fieldLink RX1 18 "IronedQuarrels$Heap" "toWhoms" "[I" ∈ wsX1_saidBeginnings := List.mem_of_getElem? (i := 3) (by decide +kernel)
theorem hi_X1_saidBeginnings_X1 : ∀ w ∈ wsX10, w ∈ wsX1_saidBeginnings := fun w h => List.mem_cons_of_mem _ (List.mem_append_right _ h)
set_option maxHeartbeats 4000000 in
set_option maxRecDepth 100000 in
theorem c_X1_saidBeginnings (l : Launch) (D : va_G) (ca : Nat → ClassId) (a : Nat → Nat) (kinds : Nat → Int32) (whos : Nat → Int32) (toWhoms : Nat → Int32) (topics : Nat → Int32) (weights : Nat → Int32) (answered : Nat → Int32) (deeds : Nat → Int32) (size : Int32) (saidBits : Int32) (deedCount : Int32) (who : Int32) (toWhom : Int32) (post : Int32 → Prop) (h : wp_X1_saidBeginnings whos toWhoms answered size saidBits who toWhom post) : Met l yX1_saidBeginnings wsX1_saidBeginnings rm_X1_saidBeginnings (PcX D ca [.ref (a 0), .int who, .int toWhom] (W_X1 ca a kinds whos toWhoms topics weights answered deeds size saidBits deedCount)) (rdI post) 0 0 (fun _ => False) := by
  refine Met.ofW (cc := cX1_saidBeginnings) (maxL := 5) (ret := (some .int)) (by decide) rfl ?_
  intro zp ze zs zm za zb zt zc z1 B hml hv
  obtain ⟨rfl, hP, hK⟩ := hv
  have hx := B.exec
  have hb := B.bytes
  have hr := B.returns
  have hts := atoms_spec (ws := wsX1_saidBeginnings) B.pre
  have hown : zs.vm.findClass RX1 = some zm.cls := findClass_of_methodNamed B.named
  have hlocks := B.notSynchronized
  have hl := lv_entry ([.ref (a 0), .int who, .int toWhom]) (n := 5) (Nat.le_of_ble_eq_true rfl)
  rw [lg_entry_eq]
  generalize (lg_sl ([.ref (a 0), .int who, .int toWhom]) ++ List.replicate (5 - (lg_sl ([.ref (a 0), .int who, .int toWhom])).length) Slot.unset).toArray = ls at hl ⊢
  replace hl : lv_has ls 5 [(0, .ref (a 0)), (1, .int who), (2, .int toWhom)] := hl
  show W zp l ze rm_X1_saidBeginnings zs zm ([.ref (a 0), .int who, .int toWhom] : List Value).toArray zb zt zc zs.heap [] 0 0 (MQ zb (rdI post) ([.ref (a 0), .int who, .int toWhom] : List Value).toArray zs 0 0 (fun _ => False)) (F0 zm 0 ls [])
  have w_5 : ∀ (zn : Nat) (x3 : Int32) (x4 : Int32), wl_X1_saidBeginnings_5 whos toWhoms answered size saidBits who toWhom post zn x3 x4 → ∀ ls : Array Slot, lv_has ls 5 [(0, .ref (a 0)), (1, .int who), (2, .int toWhom), (3, .int x3), (4, .int x4)] → W zp l ze rm_X1_saidBeginnings zs zm ([.ref (a 0), .int who, .int toWhom] : List Value).toArray zb zt zc zs.heap [] 0 0 (MQ zb (rdI post) ([.ref (a 0), .int who, .int toWhom] : List Value).toArray zs 0 0 (fun _ => False)) (F0 zm 5 ls []) := by
    intro zn
    induction zn with
    | zero => intro x3 x4 h; exact h.elim
    | succ zn ih5 =>
      intro x3 x4 h ls hl
      replace h : wb_X1_saidBeginnings_5 whos toWhoms answered size saidBits who toWhom post (wl_X1_saidBeginnings_5 whos toWhoms answered size saidBits who toWhom post zn) x3 x4 := h
      unfold wb_X1_saidBeginnings_5 at h
      refine lv_iload hx hb dX1_saidBeginnings_5 (lv_at hl 4 rfl) ?_
      refine lv_aload_n hx hb dX1_saidBeginnings_7 rfl (lv_at hl 0 rfl) ?_
      refine va_get (D := D) (ci := 1) (v := .int size) (C := RX1) (T := TX1) (N := 10) hx hb hts hi_X1_saidBeginnings_X1 hown hK.1 hP 0 rfl rfl 7 (by decide) (hts _ k_X1_saidBeginnings_1) (fun _ h9 => h9) rfl dX1_saidBeginnings_8 ?_
      refine lv_icmp_ge (tgt := 63) hx hb dX1_saidBeginnings_11 (by decide) (fun hc => ?_) (fun hc => ?_)
      · have h := h.1 hc
        refine lv_iload_n hx hb dX1_saidBeginnings_63 rfl (lv_at hl 3 rfl) ?_
        exact W.iret (v := x3) hx hb hr (fun t ht hW => ⟨x3, rfl, h, ht⟩) (fun q hq => absurd hq List.not_mem_nil) dX1_saidBeginnings_64
      · have h := h.2 hc
        refine lv_aload_n hx hb dX1_saidBeginnings_14 rfl (lv_at hl 0 rfl) ?_
        refine lv_iload hx hb dX1_saidBeginnings_15 (lv_at hl 4 rfl) ?_
        refine rd_callz (va_runV (As := [.int x4]) (rest := []) ⟨hx, hb, hml, hown, hts⟩ (c_X1_isSaid l D ca a kinds whos toWhoms topics weights answered deeds size saidBits deedCount x4 _ h) (cwV 1 hts gX1_saidBeginnings_X1_isSaid rfl rfl rfl (by decide +kernel) ⟨Nat.le_of_ble_eq_true rfl, Nat.le_of_ble_eq_true rfl⟩) (PcX.preV (q := (RX1, TX1, 10)) (ci := 1) (q0 := 0) hK hP rfl rfl hP) rfl rfl hl.1 rfl (lv_room (Nat.le_of_ble_eq_true rfl)) dX1_saidBeginnings_17 ⟨Nat.le_of_ble_eq_true rfl, Nat.le_of_ble_eq_true rfl⟩) (fun r1 h hz_r1 => ?_)
        try dsimp only at h
        refine lv_if_eq (tgt := 57) hx hb dX1_saidBeginnings_20 (by decide) (fun hc => ?_) (fun hc => ?_)
        · have h := h.1 hc
          refine lv_iinc (v := x4 + 1) (lv' := [(4, .int (x4 + 1)), (0, .ref (a 0)), (1, .int who), (2, .int toWhom), (3, .int x3)]) hx hb dX1_saidBeginnings_57 hl (k := 4) rfl rfl (by decide) rfl (fun ls hl => ?_)
          refine lv_goto (tgt := 5) hx hb dX1_saidBeginnings_60 (by decide) ?_
          exact ih5 x3 (x4 + 1) h ls (lv_sub hl [1, 2, 3, 4, 0] rfl)
        · have h := h.2 hc
          refine lv_aload_n hx hb dX1_saidBeginnings_23 rfl (lv_at hl 0 rfl) ?_
          refine lv_iload hx hb dX1_saidBeginnings_24 (lv_at hl 4 rfl) ?_
          refine rd_callz (va_runV (As := [.int x4]) (rest := []) ⟨hx, hb, hml, hown, hts⟩ (c_X1_isBeginning l D ca a kinds whos toWhoms topics weights answered deeds size saidBits deedCount x4 _ h) (cwV 1 hts gX1_saidBeginnings_X1_isBeginning rfl rfl rfl (by decide +kernel) ⟨Nat.le_of_ble_eq_true rfl, Nat.le_of_ble_eq_true rfl⟩) (PcX.preV (q := (RX1, TX1, 10)) (ci := 1) (q0 := 0) hK hP rfl rfl hP) rfl rfl hl.1 rfl (lv_room (Nat.le_of_ble_eq_true rfl)) dX1_saidBeginnings_26 ⟨Nat.le_of_ble_eq_true rfl, Nat.le_of_ble_eq_true rfl⟩) (fun r2 h hz_r2 => ?_)
          try dsimp only at h
          refine lv_if_eq (tgt := 57) hx hb dX1_saidBeginnings_29 (by decide) (fun hc => ?_) (fun hc => ?_)
          · have h := h.1 hc
            refine lv_iinc (v := x4 + 1) (lv' := [(4, .int (x4 + 1)), (0, .ref (a 0)), (1, .int who), (2, .int toWhom), (3, .int x3)]) hx hb dX1_saidBeginnings_57 hl (k := 4) rfl rfl (by decide) rfl (fun ls hl => ?_)
            refine lv_goto (tgt := 5) hx hb dX1_saidBeginnings_60 (by decide) ?_
            exact ih5 x3 (x4 + 1) h ls (lv_sub hl [1, 2, 3, 4, 0] rfl)
          · have h := h.2 hc
            refine lv_aload_n hx hb dX1_saidBeginnings_32 rfl (lv_at hl 0 rfl) ?_
            refine va_get (D := D) (ci := 1) (v := .ref (a 2)) (C := RX1) (T := TX1) (N := 10) hx hb hts hi_X1_saidBeginnings_X1 hown hK.1 hP 0 rfl rfl 1 (by decide) (hts _ k_X1_saidBeginnings_2) (fun _ h9 => h9) rfl dX1_saidBeginnings_33 ?_
            refine lv_iload hx hb dX1_saidBeginnings_36 (lv_at hl 4 rfl) ?_
            obtain ⟨hi, h⟩ := h
            refine x_iald (v := whos x4.toNatClampNeg) hx hb hK hP 2 rfl hi rfl dX1_saidBeginnings_38 ?_
            refine lv_iload_n hx hb dX1_saidBeginnings_39 rfl (lv_at hl 1 rfl) ?_
            refine lv_icmp_ne (tgt := 57) hx hb dX1_saidBeginnings_40 (by decide) (fun hc => ?_) (fun hc => ?_)
            · have h := h.1 hc
              refine lv_iinc (v := x4 + 1) (lv' := [(4, .int (x4 + 1)), (0, .ref (a 0)), (1, .int who), (2, .int toWhom), (3, .int x3)]) hx hb dX1_saidBeginnings_57 hl (k := 4) rfl rfl (by decide) rfl (fun ls hl => ?_)
              refine lv_goto (tgt := 5) hx hb dX1_saidBeginnings_60 (by decide) ?_
              exact ih5 x3 (x4 + 1) h ls (lv_sub hl [1, 2, 3, 4, 0] rfl)
            · have h := h.2 hc
              refine lv_aload_n hx hb dX1_saidBeginnings_43 rfl (lv_at hl 0 rfl) ?_
              refine va_get (D := D) (ci := 1) (v := .ref (a 3)) (C := RX1) (T := TX1) (N := 10) hx hb hts hi_X1_saidBeginnings_X1 hown hK.1 hP 0 rfl rfl 2 (by decide) (hts _ k_X1_saidBeginnings_3) (fun _ h9 => h9) rfl dX1_saidBeginnings_44 ?_
              refine lv_iload hx hb dX1_saidBeginnings_47 (lv_at hl 4 rfl) ?_
              obtain ⟨hi, h⟩ := h
              refine x_iald (v := toWhoms x4.toNatClampNeg) hx hb hK hP 3 rfl hi rfl dX1_saidBeginnings_49 ?_
              refine lv_iload_n hx hb dX1_saidBeginnings_50 rfl (lv_at hl 2 rfl) ?_
              refine lv_icmp_ne (tgt := 57) hx hb dX1_saidBeginnings_51 (by decide) (fun hc => ?_) (fun hc => ?_)
              · have h := h.1 hc
                refine lv_iinc (v := x4 + 1) (lv' := [(4, .int (x4 + 1)), (0, .ref (a 0)), (1, .int who), (2, .int toWhom), (3, .int x3)]) hx hb dX1_saidBeginnings_57 hl (k := 4) rfl rfl (by decide) rfl (fun ls hl => ?_)
                refine lv_goto (tgt := 5) hx hb dX1_saidBeginnings_60 (by decide) ?_
                exact ih5 x3 (x4 + 1) h ls (lv_sub hl [1, 2, 3, 4, 0] rfl)
              · have h := h.2 hc
                refine lv_iinc (v := x3 + 1) (lv' := [(3, .int (x3 + 1)), (0, .ref (a 0)), (1, .int who), (2, .int toWhom), (4, .int x4)]) hx hb dX1_saidBeginnings_54 hl (k := 3) rfl rfl (by decide) rfl (fun ls hl => ?_)
                refine lv_iinc (v := x4 + 1) (lv' := [(4, .int (x4 + 1)), (3, .int (x3 + 1)), (0, .ref (a 0)), (1, .int who), (2, .int toWhom)]) hx hb dX1_saidBeginnings_57 hl (k := 4) rfl rfl (by decide) rfl (fun ls hl => ?_)
                refine lv_goto (tgt := 5) hx hb dX1_saidBeginnings_60 (by decide) ?_
                exact ih5 (x3 + 1) (x4 + 1) h ls (lv_sub hl [2, 3, 4, 1, 0] rfl)
  unfold wp_X1_saidBeginnings at h
  refine lv_iconst (v := (0)) hx hb dX1_saidBeginnings_0 (by decide) ?_
  refine lv_istore_n (lv' := [(3, .int (0 : Int32)), (0, .ref (a 0)), (1, .int who), (2, .int toWhom)]) hx hb dX1_saidBeginnings_1 rfl hl (by decide) rfl (fun ls hl => ?_)
  refine lv_iconst (v := (0)) hx hb dX1_saidBeginnings_2 (by decide) ?_
  refine lv_istore (lv' := [(4, .int (0 : Int32)), (3, .int (0 : Int32)), (0, .ref (a 0)), (1, .int who), (2, .int toWhom)]) hx hb dX1_saidBeginnings_3 hl (by decide) rfl (fun ls hl => ?_)
  obtain ⟨zn, h⟩ := h
  exact w_5  zn (0 : Int32) (0 : Int32) h ls (lv_sub hl [2, 3, 4, 1, 0] rfl)
