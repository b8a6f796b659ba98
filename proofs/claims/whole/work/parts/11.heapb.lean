-- IronedQuarrels$Heap.begunBy(I)I
def wb_X1_begunBy_4 (whos : Nat → Int32) (answered : Nat → Int32) (size : Int32) (p : Int32) (post : Int32 → Prop) (K4 : (Int32) → (Int32) → Prop) (x2 : Int32) (x3 : Int32) : Prop :=
  (size ≤ x3 → (post x2)) ∧ (¬ size ≤ x3 → (wp_X1_beginningOf answered size x3 (fun r1 => vp_in r1 12 ∧ (¬ (whos r1.toNatClampNeg) = p → (K4 x2 (x3 + 1))) ∧ ((whos r1.toNatClampNeg) = p → (wp_X7_bit x3 (fun r2 => K4 (x2 ||| r2) (x3 + 1)))))))
def wl_X1_begunBy_4 (whos : Nat → Int32) (answered : Nat → Int32) (size : Int32) (p : Int32) (post : Int32 → Prop) : Nat → (Int32) → (Int32) → Prop
  | 0 => fun _ _ => False
  | zn + 1 => wb_X1_begunBy_4 whos answered size p post (wl_X1_begunBy_4 whos answered size p post zn)
def wp_X1_begunBy (whos : Nat → Int32) (answered : Nat → Int32) (size : Int32) (p : Int32) (post : Int32 → Prop) : Prop :=
  ∃ zn, wl_X1_begunBy_4 whos answered size p post zn (0 : Int32) (0 : Int32)
def rm_X1_begunBy : Room := { frames := 3, cells := 0, slots := 0, locals := 67 }
theorem k_X1_begunBy_1 : Cond.fieldLink RX1 33 "IronedQuarrels$Heap" "size" "I" ∈ wsX1_begunBy := List.mem_of_getElem? (i := 1) (by decide +kernel)
theorem k_X1_begunBy_2 : Cond.fieldLink RX1 15 "IronedQuarrels$Heap" "whos" "[I" ∈ wsX1_begunBy := List.mem_of_getElem? (i := 2) (by decide +kernel)
theorem k_X1_begunBy_17 : Cond.static yX7_bit ∈ wsX1_begunBy := List.mem_of_getElem? (i := 17) (by decide +kernel)
theorem k_X1_begunBy_18 : Cond.initialized RX7 ∈ wsX1_begunBy := List.mem_of_getElem? (i := 18) (by decide +kernel)
theorem hi_X1_begunBy_X1 : ∀ w ∈ wsX10, w ∈ wsX1_begunBy := fun w h => List.mem_cons_of_mem _ (List.mem_append_right _ h)
set_option maxHeartbeats 4000000 in
set_option maxRecDepth 100000 in
theorem c_X1_begunBy (l : Launch) (D : va_G) (ca : Nat → ClassId) (a : Nat → Nat) (kinds : Nat → Int32) (whos : Nat → Int32) (toWhoms : Nat → Int32) (topics : Nat → Int32) (weights : Nat → Int32) (answered : Nat → Int32) (deeds : Nat → Int32) (size : Int32) (saidBits : Int32) (deedCount : Int32) (p : Int32) (post : Int32 → Prop) (h : wp_X1_begunBy whos answered size p post) : Met l yX1_begunBy wsX1_begunBy rm_X1_begunBy (PcX D ca [.ref (a 0), .int p] (W_X1 ca a kinds whos toWhoms topics weights answered deeds size saidBits deedCount)) (rdI post) 0 0 (fun _ => False) := by
  refine Met.ofW (cc := cX1_begunBy) (maxL := 4) (ret := (some .int)) (by decide) rfl ?_
  intro zp ze zs zm za zb zt zc z1 B hml hv
  obtain ⟨rfl, hP, hK⟩ := hv
  have hx := B.exec
  have hb := B.bytes
  have hr := B.returns
  have hts := atoms_spec (ws := wsX1_begunBy) B.pre
  have hown : zs.vm.findClass RX1 = some zm.cls := findClass_of_methodNamed B.named
  have hlocks := B.notSynchronized
  have hl := lv_entry ([.ref (a 0), .int p]) (n := 4) (Nat.le_of_ble_eq_true rfl)
  rw [lg_entry_eq]
  generalize (lg_sl ([.ref (a 0), .int p]) ++ List.replicate (4 - (lg_sl ([.ref (a 0), .int p])).length) Slot.unset).toArray = ls at hl ⊢
  replace hl : lv_has ls 4 [(0, .ref (a 0)), (1, .int p)] := hl
  show W zp l ze rm_X1_begunBy zs zm ([.ref (a 0), .int p] : List Value).toArray zb zt zc zs.heap [] 0 0 (MQ zb (rdI post) ([.ref (a 0), .int p] : List Value).toArray zs 0 0 (fun _ => False)) (F0 zm 0 ls [])
  have w_4 : ∀ (zn : Nat) (x2 : Int32) (x3 : Int32), wl_X1_begunBy_4 whos answered size p post zn x2 x3 → ∀ ls : Array Slot, lv_has ls 4 [(0, .ref (a 0)), (1, .int p), (2, .int x2), (3, .int x3)] → W zp l ze rm_X1_begunBy zs zm ([.ref (a 0), .int p] : List Value).toArray zb zt zc zs.heap [] 0 0 (MQ zb (rdI post) ([.ref (a 0), .int p] : List Value).toArray zs 0 0 (fun _ => False)) (F0 zm 4 ls []) := by
    intro zn
    induction zn with
    | zero => intro x2 x3 h; exact h.elim
    | succ zn ih4 =>
      intro x2 x3 h ls hl
      replace h : wb_X1_begunBy_4 whos answered size p post (wl_X1_begunBy_4 whos answered size p post zn) x2 x3 := h
      unfold wb_X1_begunBy_4 at h
      refine lv_iload_n hx hb dX1_begunBy_4 rfl (lv_at hl 3 rfl) ?_
      refine lv_aload_n hx hb dX1_begunBy_5 rfl (lv_at hl 0 rfl) ?_
      refine va_get (D := D) (ci := 1) (v := .int size) (C := RX1) (T := TX1) (N := 10) hx hb hts hi_X1_begunBy_X1 hown hK.1 hP 0 rfl rfl 7 (by decide) (hts _ k_X1_begunBy_1) (fun _ h9 => h9) rfl dX1_begunBy_6 ?_
      refine lv_icmp_ge (tgt := 39) hx hb dX1_begunBy_9 (by decide) (fun hc => ?_) (fun hc => ?_)
      · have h := h.1 hc
        refine lv_iload_n hx hb dX1_begunBy_39 rfl (lv_at hl 2 rfl) ?_
        exact W.iret (v := x2) hx hb hr (fun t ht hW => ⟨x2, rfl, h, ht⟩) (fun q hq => absurd hq List.not_mem_nil) dX1_begunBy_40
      · have h := h.2 hc
        refine lv_aload_n hx hb dX1_begunBy_12 rfl (lv_at hl 0 rfl) ?_
        refine va_get (D := D) (ci := 1) (v := .ref (a 2)) (C := RX1) (T := TX1) (N := 10) hx hb hts hi_X1_begunBy_X1 hown hK.1 hP 0 rfl rfl 1 (by decide) (hts _ k_X1_begunBy_2) (fun _ h9 => h9) rfl dX1_begunBy_13 ?_
        refine lv_aload_n hx hb dX1_begunBy_16 rfl (lv_at hl 0 rfl) ?_
        refine lv_iload_n hx hb dX1_begunBy_17 rfl (lv_at hl 3 rfl) ?_
        refine rd_calli (va_runV (As := [.int x3]) (rest := [.ref (a 2)]) ⟨hx, hb, hml, hown, hts⟩ (c_X1_beginningOf l D ca a kinds whos toWhoms topics weights answered deeds size saidBits deedCount x3 _ h) (cwV 1 hts gX1_begunBy_X1_beginningOf rfl rfl rfl (by decide +kernel) ⟨Nat.le_of_ble_eq_true rfl, Nat.le_of_ble_eq_true rfl⟩) (PcX.preV (q := (RX1, TX1, 10)) (ci := 1) (q0 := 0) hK hP rfl rfl hP) rfl rfl hl.1 rfl (lv_room (Nat.le_of_ble_eq_true rfl)) dX1_begunBy_18 ⟨Nat.le_of_ble_eq_true rfl, Nat.le_of_ble_eq_true rfl⟩) (fun r1 h => ?_)
        try dsimp only at h
        obtain ⟨hi, h⟩ := h
        refine x_iald (v := whos r1.toNatClampNeg) hx hb hK hP 2 rfl hi rfl dX1_begunBy_21 ?_
        refine lv_iload_n hx hb dX1_begunBy_22 rfl (lv_at hl 1 rfl) ?_
        refine lv_icmp_ne (tgt := 33) hx hb dX1_begunBy_23 (by decide) (fun hc => ?_) (fun hc => ?_)
        · have h := h.1 hc
          refine lv_iinc (v := x3 + 1) (lv' := [(3, .int (x3 + 1)), (0, .ref (a 0)), (1, .int p), (2, .int x2)]) hx hb dX1_begunBy_33 hl (k := 3) rfl rfl (by decide) rfl (fun ls hl => ?_)
          refine lv_goto (tgt := 4) hx hb dX1_begunBy_36 (by decide) ?_
          exact ih4 x2 (x3 + 1) h ls (lv_sub hl [1, 2, 3, 0] rfl)
        · have h := h.2 hc
          refine lv_iload_n hx hb dX1_begunBy_26 rfl (lv_at hl 2 rfl) ?_
          refine lv_iload_n hx hb dX1_begunBy_27 rfl (lv_at hl 3 rfl) ?_
          refine rd_calli (va_runSN (As := [.int x3]) (rest := [.int x2]) ⟨hx, hb, hml, hown, hts⟩ (c_X7_bit l D ca   x3 _ h) ⟨va_cnB 1 hts gX1_begunBy_X7_bit_n53 rfl rfl rfl (hK.2 (RX1, 53, yX7_bit, "IronedQuarrels") (List.mem_of_getElem? (i := 5) rfl)) (hts _ k_X1_begunBy_18) (by decide +kernel) ⟨Nat.le_of_ble_eq_true rfl, Nat.le_of_ble_eq_true rfl⟩, hts _ k_X1_begunBy_17, trivial⟩ (PcX.preS hK (fun k q h => by simp at h)) rfl rfl hl.1 rfl (lv_room (Nat.le_of_ble_eq_true rfl)) dX1_begunBy_28 ⟨Nat.le_of_ble_eq_true rfl, Nat.le_of_ble_eq_true rfl⟩) (fun r2 h => ?_)
          try dsimp only at h
          refine lv_ior hx hb dX1_begunBy_31 ?_
          refine lv_istore_n (lv' := [(2, .int (x2 ||| r2)), (0, .ref (a 0)), (1, .int p), (3, .int x3)]) hx hb dX1_begunBy_32 rfl hl (by decide) rfl (fun ls hl => ?_)
          refine lv_iinc (v := x3 + 1) (lv' := [(3, .int (x3 + 1)), (2, .int (x2 ||| r2)), (0, .ref (a 0)), (1, .int p)]) hx hb dX1_begunBy_33 hl (k := 3) rfl rfl (by decide) rfl (fun ls hl => ?_)
          refine lv_goto (tgt := 4) hx hb dX1_begunBy_36 (by decide) ?_
          exact ih4 (x2 ||| r2) (x3 + 1) h ls (lv_sub hl [2, 3, 1, 0] rfl)
  unfold wp_X1_begunBy at h
  refine lv_iconst (v := (0)) hx hb dX1_begunBy_0 (by decide) ?_
  refine lv_istore_n (lv' := [(2, .int (0 : Int32)), (0, .ref (a 0)), (1, .int p)]) hx hb dX1_begunBy_1 rfl hl (by decide) rfl (fun ls hl => ?_)
  refine lv_iconst (v := (0)) hx hb dX1_begunBy_2 (by decide) ?_
  refine lv_istore_n (lv' := [(3, .int (0 : Int32)), (2, .int (0 : Int32)), (0, .ref (a 0)), (1, .int p)]) hx hb dX1_begunBy_3 rfl hl (by decide) rfl (fun ls hl => ?_)
  obtain ⟨zn, h⟩ := h
  exact w_4  zn (0 : Int32) (0 : Int32) h ls (lv_sub hl [2, 3, 1, 0] rfl)

-- IronedQuarrels$Heap.pricesOf(I)I
def wb_X1_pricesOf_4 (kinds : Nat → Int32) (whos : Nat → Int32) (toWhoms : Nat → Int32) (topics : Nat → Int32) (weights : Nat → Int32) (size : Int32) (saidBits : Int32) (bits : Int32) (post : Int32 → Prop) (K4 : (Int32) → (Int32) → Prop) (x2 : Int32) (x3 : Int32) : Prop :=
  (size ≤ x3 → (post x2)) ∧ (¬ size ≤ x3 → (wp_X7_hasBit bits x3 (fun r1 => (r1 = 0 → (K4 x2 (x3 + 1))) ∧ (¬ r1 = 0 → (wp_X1_priceAmong kinds whos toWhoms topics weights size x3 saidBits (fun r2 => K4 (x2 + r2) (x3 + 1)))))))
def wl_X1_pricesOf_4 (kinds : Nat → Int32) (whos : Nat → Int32) (toWhoms : Nat → Int32) (topics : Nat → Int32) (weights : Nat → Int32) (size : Int32) (saidBits : Int32) (bits : Int32) (post : Int32 → Prop) : Nat → (Int32) → (Int32) → Prop
  | 0 => fun _ _ => False
  | zn + 1 => wb_X1_pricesOf_4 kinds whos toWhoms topics weights size saidBits bits post (wl_X1_pricesOf_4 kinds whos toWhoms topics weights size saidBits bits post zn)
def wp_X1_pricesOf (kinds : Nat → Int32) (whos : Nat → Int32) (toWhoms : Nat → Int32) (topics : Nat → Int32) (weights : Nat → Int32) (size : Int32) (saidBits : Int32) (bits : Int32) (post : Int32 → Prop) : Prop :=
  ∃ zn, wl_X1_pricesOf_4 kinds whos toWhoms topics weights size saidBits bits post zn (0 : Int32) (0 : Int32)
def rm_X1_pricesOf : Room := { frames := 4, cells := 0, slots := 0, locals := 87 }
theorem k_X1_pricesOf_1 : Cond.fieldLink RX1 33 "IronedQuarrels$Heap" "size" "I" ∈ wsX1_pricesOf := List.mem_of_getElem? (i := 1) (by decide +kernel)
theorem k_X1_pricesOf_2 : Cond.fieldLink RX1 37 "IronedQuarrels$Heap" "saidBits" "I" ∈ wsX1_pricesOf := List.mem_of_getElem? (i := 2) (by decide +kernel)
theorem k_X1_pricesOf_3 : Cond.static yX7_hasBit ∈ wsX1_pricesOf := List.mem_of_getElem? (i := 3) (by decide +kernel)
theorem k_X1_pricesOf_4 : Cond.initialized RX7 ∈ wsX1_pricesOf := List.mem_of_getElem? (i := 4) (by decide +kernel)
theorem hi_X1_pricesOf_X1 : ∀ w ∈ wsX10, w ∈ wsX1_pricesOf := fun w h => List.mem_cons_of_mem _ (List.mem_append_right _ h)
set_option maxHeartbeats 4000000 in
set_option maxRecDepth 100000 in
theorem c_X1_pricesOf (l : Launch) (D : va_G) (ca : Nat → ClassId) (a : Nat → Nat) (kinds : Nat → Int32) (whos : Nat → Int32) (toWhoms : Nat → Int32) (topics : Nat → Int32) (weights : Nat → Int32) (answered : Nat → Int32) (deeds : Nat → Int32) (size : Int32) (saidBits : Int32) (deedCount : Int32) (bits : Int32) (post : Int32 → Prop) (h : wp_X1_pricesOf kinds whos toWhoms topics weights size saidBits bits post) : Met l yX1_pricesOf wsX1_pricesOf rm_X1_pricesOf (PcX D ca [.ref (a 0), .int bits] (W_X1 ca a kinds whos toWhoms topics weights answered deeds size saidBits deedCount)) (rdI post) 0 0 (fun _ => False) := by
  refine Met.ofW (cc := cX1_pricesOf) (maxL := 4) (ret := (some .int)) (by decide) rfl ?_
  intro zp ze zs zm za zb zt zc z1 B hml hv
  obtain ⟨rfl, hP, hK⟩ := hv
  have hx := B.exec
  have hb := B.bytes
  have hr := B.returns
  have hts := atoms_spec (ws := wsX1_pricesOf) B.pre
  have hown : zs.vm.findClass RX1 = some zm.cls := findClass_of_methodNamed B.named
  have hlocks := B.notSynchronized
  have hl := lv_entry ([.ref (a 0), .int bits]) (n := 4) (Nat.le_of_ble_eq_true rfl)
  rw [lg_entry_eq]
  generalize (lg_sl ([.ref (a 0), .int bits]) ++ List.replicate (4 - (lg_sl ([.ref (a 0), .int bits])).length) Slot.unset).toArray = ls at hl ⊢
  replace hl : lv_has ls 4 [(0, .ref (a 0)), (1, .int bits)] := hl
  show W zp l ze rm_X1_pricesOf zs zm ([.ref (a 0), .int bits] : List Value).toArray zb zt zc zs.heap [] 0 0 (MQ zb (rdI post) ([.ref (a 0), .int bits] : List Value).toArray zs 0 0 (fun _ => False)) (F0 zm 0 ls [])
  have w_4 : ∀ (zn : Nat) (x2 : Int32) (x3 : Int32), wl_X1_pricesOf_4 kinds whos toWhoms topics weights size saidBits bits post zn x2 x3 → ∀ ls : Array Slot, lv_has ls 4 [(0, .ref (a 0)), (1, .int bits), (2, .int x2), (3, .int x3)] → W zp l ze rm_X1_pricesOf zs zm ([.ref (a 0), .int bits] : List Value).toArray zb zt zc zs.heap [] 0 0 (MQ zb (rdI post) ([.ref (a 0), .int bits] : List Value).toArray zs 0 0 (fun _ => False)) (F0 zm 4 ls []) := by
    intro zn
    induction zn with
    | zero => intro x2 x3 h; exact h.elim
    | succ zn ih4 =>
      intro x2 x3 h ls hl
      replace h : wb_X1_pricesOf_4 kinds whos toWhoms topics weights size saidBits bits post (wl_X1_pricesOf_4 kinds whos toWhoms topics weights size saidBits bits post zn) x2 x3 := h
      unfold wb_X1_pricesOf_4 at h
      refine lv_iload_n hx hb dX1_pricesOf_4 rfl (lv_at hl 3 rfl) ?_
      refine lv_aload_n hx hb dX1_pricesOf_5 rfl (lv_at hl 0 rfl) ?_
      refine va_get (D := D) (ci := 1) (v := .int size) (C := RX1) (T := TX1) (N := 10) hx hb hts hi_X1_pricesOf_X1 hown hK.1 hP 0 rfl rfl 7 (by decide) (hts _ k_X1_pricesOf_1) (fun _ h9 => h9) rfl dX1_pricesOf_6 ?_
      refine lv_icmp_ge (tgt := 38) hx hb dX1_pricesOf_9 (by decide) (fun hc => ?_) (fun hc => ?_)
      · have h := h.1 hc
        refine lv_iload_n hx hb dX1_pricesOf_38 rfl (lv_at hl 2 rfl) ?_
        exact W.iret (v := x2) hx hb hr (fun t ht hW => ⟨x2, rfl, h, ht⟩) (fun q hq => absurd hq List.not_mem_nil) dX1_pricesOf_39
      · have h := h.2 hc
        refine lv_iload_n hx hb dX1_pricesOf_12 rfl (lv_at hl 1 rfl) ?_
        refine lv_iload_n hx hb dX1_pricesOf_13 rfl (lv_at hl 3 rfl) ?_
        refine rd_callz (va_runSN (As := [.int bits, .int x3]) (rest := []) ⟨hx, hb, hml, hown, hts⟩ (c_X7_hasBit l D ca   bits x3 _ h) ⟨va_cnB 2 hts gX1_pricesOf_X7_hasBit_n57 rfl rfl rfl (hK.2 (RX1, 57, yX7_hasBit, "IronedQuarrels") (List.mem_of_getElem? (i := 6) rfl)) (hts _ k_X1_pricesOf_4) (by decide +kernel) ⟨Nat.le_of_ble_eq_true rfl, Nat.le_of_ble_eq_true rfl⟩, hts _ k_X1_pricesOf_3, trivial⟩ (PcX.preS hK (fun k q h => by simp at h)) rfl rfl hl.1 rfl (lv_room (Nat.le_of_ble_eq_true rfl)) dX1_pricesOf_14 ⟨Nat.le_of_ble_eq_true rfl, Nat.le_of_ble_eq_true rfl⟩) (fun r1 h hz_r1 => ?_)
        try dsimp only at h
        refine lv_if_eq (tgt := 32) hx hb dX1_pricesOf_17 (by decide) (fun hc => ?_) (fun hc => ?_)
        · have h := h.1 hc
          refine lv_iinc (v := x3 + 1) (lv' := [(3, .int (x3 + 1)), (0, .ref (a 0)), (1, .int bits), (2, .int x2)]) hx hb dX1_pricesOf_32 hl (k := 3) rfl rfl (by decide) rfl (fun ls hl => ?_)
          refine lv_goto (tgt := 4) hx hb dX1_pricesOf_35 (by decide) ?_
          exact ih4 x2 (x3 + 1) h ls (lv_sub hl [1, 2, 3, 0] rfl)
        · have h := h.2 hc
          refine lv_iload_n hx hb dX1_pricesOf_20 rfl (lv_at hl 2 rfl) ?_
          refine lv_aload_n hx hb dX1_pricesOf_21 rfl (lv_at hl 0 rfl) ?_
          refine lv_iload_n hx hb dX1_pricesOf_22 rfl (lv_at hl 3 rfl) ?_
          refine lv_aload_n hx hb dX1_pricesOf_23 rfl (lv_at hl 0 rfl) ?_
          refine va_get (D := D) (ci := 1) (v := .int saidBits) (C := RX1) (T := TX1) (N := 10) hx hb hts hi_X1_pricesOf_X1 hown hK.1 hP 0 rfl rfl 8 (by decide) (hts _ k_X1_pricesOf_2) (fun _ h9 => h9) rfl dX1_pricesOf_24 ?_
          refine rd_calli (va_runV (As := [.int x3, .int saidBits]) (rest := [.int x2]) ⟨hx, hb, hml, hown, hts⟩ (c_X1_priceAmong l D ca a kinds whos toWhoms topics weights answered deeds size saidBits deedCount x3 saidBits _ h) (cwV 2 hts gX1_pricesOf_X1_priceAmong rfl rfl rfl (by decide +kernel) ⟨Nat.le_of_ble_eq_true rfl, Nat.le_of_ble_eq_true rfl⟩) (PcX.preV (q := (RX1, TX1, 10)) (ci := 1) (q0 := 0) hK hP rfl rfl hP) rfl rfl hl.1 rfl (lv_room (Nat.le_of_ble_eq_true rfl)) dX1_pricesOf_27 ⟨Nat.le_of_ble_eq_true rfl, Nat.le_of_ble_eq_true rfl⟩) (fun r2 h => ?_)
          try dsimp only at h
          refine lv_iadd hx hb dX1_pricesOf_30 ?_
          refine lv_istore_n (lv' := [(2, .int (x2 + r2)), (0, .ref (a 0)), (1, .int bits), (3, .int x3)]) hx hb dX1_pricesOf_31 rfl hl (by decide) rfl (fun ls hl => ?_)
          refine lv_iinc (v := x3 + 1) (lv' := [(3, .int (x3 + 1)), (2, .int (x2 + r2)), (0, .ref (a 0)), (1, .int bits)]) hx hb dX1_pricesOf_32 hl (k := 3) rfl rfl (by decide) rfl (fun ls hl => ?_)
          refine lv_goto (tgt := 4) hx hb dX1_pricesOf_35 (by decide) ?_
          exact ih4 (x2 + r2) (x3 + 1) h ls (lv_sub hl [2, 3, 1, 0] rfl)
  unfold wp_X1_pricesOf at h
  refine lv_iconst (v := (0)) hx hb dX1_pricesOf_0 (by decide) ?_
  refine lv_istore_n (lv' := [(2, .int (0 : Int32)), (0, .ref (a 0)), (1, .int bits)]) hx hb dX1_pricesOf_1 rfl hl (by decide) rfl (fun ls hl => ?_)
  refine lv_iconst (v := (0)) hx hb dX1_pricesOf_2 (by decide) ?_
  refine lv_istore_n (lv' := [(3, .int (0 : Int32)), (2, .int (0 : Int32)), (0, .ref (a 0)), (1, .int bits)]) hx hb dX1_pricesOf_3 rfl hl (by decide) rfl (fun ls hl => ?_)
  obtain ⟨zn, h⟩ := h
  exact w_4  zn (0 : Int32) (0 : Int32) h ls (lv_sub hl [2, 3, 1, 0] rfl)

-- IronedQuarrels$Heap.topicOf(I)I
def wp_X1_topicOf (topics : Nat → Int32) (i : Int32) (post : Int32 → Prop) : Prop :=
  vp_in i 12 ∧ post (topics i.toNatClampNeg)
def rm_X1_topicOf : Room := { frames := 0, cells := 0, slots := 0, locals := 0 }
theorem k_X1_topicOf_1 : Cond.fieldLink RX1 21 "IronedQuarrels$Heap" "topics" "[I" ∈ wsX1_topicOf := List.mem_of_getElem? (i := 1) (by decide +kernel)
theorem hi_X1_topicOf_X1 : ∀ w ∈ wsX10, w ∈ wsX1_topicOf := fun w h => List.mem_cons_of_mem _ (List.mem_append_right _ h)
set_option maxHeartbeats 4000000 in
set_option maxRecDepth 100000 in
theorem c_X1_topicOf (l : Launch) (D : va_G) (ca : Nat → ClassId) (a : Nat → Nat) (kinds : Nat → Int32) (whos : Nat → Int32) (toWhoms : Nat → Int32) (topics : Nat → Int32) (weights : Nat → Int32) (answered : Nat → Int32) (deeds : Nat → Int32) (size : Int32) (saidBits : Int32) (deedCount : Int32) (i : Int32) (post : Int32 → Prop) (h : wp_X1_topicOf topics i post) : Met l yX1_topicOf wsX1_topicOf rm_X1_topicOf (PcX D ca [.ref (a 0), .int i] (W_X1 ca a kinds whos toWhoms topics weights answered deeds size saidBits deedCount)) (rdI post) 0 0 (fun _ => False) := by
  refine Met.ofW (cc := cX1_topicOf) (maxL := 2) (ret := (some .int)) (by decide) rfl ?_
  intro zp ze zs zm za zb zt zc z1 B hml hv
  obtain ⟨rfl, hP, hK⟩ := hv
  have hx := B.exec
  have hb := B.bytes
  have hr := B.returns
  have hts := atoms_spec (ws := wsX1_topicOf) B.pre
  have hown : zs.vm.findClass RX1 = some zm.cls := findClass_of_methodNamed B.named
  have hlocks := B.notSynchronized
  have hl := lv_entry ([.ref (a 0), .int i]) (n := 2) (Nat.le_of_ble_eq_true rfl)
  rw [lg_entry_eq]
  generalize (lg_sl ([.ref (a 0), .int i]) ++ List.replicate (2 - (lg_sl ([.ref (a 0), .int i])).length) Slot.unset).toArray = ls at hl ⊢
  replace hl : lv_has ls 2 [(0, .ref (a 0)), (1, .int i)] := hl
  show W zp l ze rm_X1_topicOf zs zm ([.ref (a 0), .int i] : List Value).toArray zb zt zc zs.heap [] 0 0 (MQ zb (rdI post) ([.ref (a 0), .int i] : List Value).toArray zs 0 0 (fun _ => False)) (F0 zm 0 ls [])
  unfold wp_X1_topicOf at h
  refine lv_aload_n hx hb dX1_topicOf_0 rfl (lv_at hl 0 rfl) ?_
  refine va_get (D := D) (ci := 1) (v := .ref (a 4)) (C := RX1) (T := TX1) (N := 10) hx hb hts hi_X1_topicOf_X1 hown hK.1 hP 0 rfl rfl 3 (by decide) (hts _ k_X1_topicOf_1) (fun _ h9 => h9) rfl dX1_topicOf_1 ?_
  refine lv_iload_n hx hb dX1_topicOf_4 rfl (lv_at hl 1 rfl) ?_
  obtain ⟨hi, h⟩ := h
  refine x_iald (v := topics i.toNatClampNeg) hx hb hK hP 4 rfl hi rfl dX1_topicOf_5 ?_
  exact W.iret (v := topics i.toNatClampNeg) hx hb hr (fun t ht hW => ⟨topics i.toNatClampNeg, rfl, h, ht⟩) (fun q hq => absurd hq List.not_mem_nil) dX1_topicOf_6

-- IronedQuarrels$Heap.beginners()I
def wb_X1_beginners_4 (whos : Nat → Int32) (answered : Nat → Int32) (size : Int32) (post : Int32 → Prop) (K4 : (Int32) → (Int32) → Prop) (x1 : Int32) (x2 : Int32) : Prop :=
  (size ≤ x2 → (post x1)) ∧ (¬ size ≤ x2 → (wp_X1_isBeginning answered size x2 (fun r1 => (r1 = 0 → (K4 x1 (x2 + 1))) ∧ (¬ r1 = 0 → (vp_in x2 12 ∧ wp_X7_bit (whos x2.toNatClampNeg) (fun r2 => K4 (x1 ||| r2) (x2 + 1)))))))
def wl_X1_beginners_4 (whos : Nat → Int32) (answered : Nat → Int32) (size : Int32) (post : Int32 → Prop) : Nat → (Int32) → (Int32) → Prop
  | 0 => fun _ _ => False
  | zn + 1 => wb_X1_beginners_4 whos answered size post (wl_X1_beginners_4 whos answered size post zn)
def wp_X1_beginners (whos : Nat → Int32) (answered : Nat → Int32) (size : Int32) (post : Int32 → Prop) : Prop :=
  ∃ zn, wl_X1_beginners_4 whos answered size post zn (0 : Int32) (0 : Int32)
def rm_X1_beginners : Room := { frames := 2, cells := 0, slots := 0, locals := 42 }
theorem k_X1_beginners_1 : Cond.fieldLink RX1 33 "IronedQuarrels$Heap" "size" "I" ∈ wsX1_beginners := List.mem_of_getElem? (i := 1) (by decide +kernel)
theorem k_X1_beginners_2 : Cond.fieldLink RX1 15 "IronedQuarrels$Heap" "whos" "[I" ∈ wsX1_beginners := List.mem_of_getElem? (i := 2) (by decide +kernel)
theorem k_X1_beginners_13 : Cond.static yX7_bit ∈ wsX1_beginners := List.mem_of_getElem? (i := 13) (by decide +kernel)
theorem k_X1_beginners_14 : Cond.initialized RX7 ∈ wsX1_beginners := List.mem_of_getElem? (i := 14) (by decide +kernel)
theorem hi_X1_beginners_X1 : ∀ w ∈ wsX10, w ∈ wsX1_beginners := fun w h => List.mem_cons_of_mem _ (List.mem_append_right _ h)
set_option maxHeartbeats 4000000 in
set_option maxRecDepth 100000 in
theorem c_X1_beginners (l : Launch) (D : va_G) (ca : Nat → ClassId) (a : Nat → Nat) (kinds : Nat → Int32) (whos : Nat → Int32) (toWhoms : Nat → Int32) (topics : Nat → Int32) (weights : Nat → Int32) (answered : Nat → Int32) (deeds : Nat → Int32) (size : Int32) (saidBits : Int32) (deedCount : Int32)  (post : Int32 → Prop) (h : wp_X1_beginners whos answered size post) : Met l yX1_beginners wsX1_beginners rm_X1_beginners (PcX D ca [.ref (a 0)] (W_X1 ca a kinds whos toWhoms topics weights answered deeds size saidBits deedCount)) (rdI post) 0 0 (fun _ => False) := by
  refine Met.ofW (cc := cX1_beginners) (maxL := 3) (ret := (some .int)) (by decide) rfl ?_
  intro zp ze zs zm za zb zt zc z1 B hml hv
  obtain ⟨rfl, hP, hK⟩ := hv
  have hx := B.exec
  have hb := B.bytes
  have hr := B.returns
  have hts := atoms_spec (ws := wsX1_beginners) B.pre
  have hown : zs.vm.findClass RX1 = some zm.cls := findClass_of_methodNamed B.named
  have hlocks := B.notSynchronized
  have hl := lv_entry ([.ref (a 0)]) (n := 3) (Nat.le_of_ble_eq_true rfl)
  rw [lg_entry_eq]
  generalize (lg_sl ([.ref (a 0)]) ++ List.replicate (3 - (lg_sl ([.ref (a 0)])).length) Slot.unset).toArray = ls at hl ⊢
  replace hl : lv_has ls 3 [(0, .ref (a 0))] := hl
  show W zp l ze rm_X1_beginners zs zm ([.ref (a 0)] : List Value).toArray zb zt zc zs.heap [] 0 0 (MQ zb (rdI post) ([.ref (a 0)] : List Value).toArray zs 0 0 (fun _ => False)) (F0 zm 0 ls [])
  have w_4 : ∀ (zn : Nat) (x1 : Int32) (x2 : Int32), wl_X1_beginners_4 whos answered size post zn x1 x2 → ∀ ls : Array Slot, lv_has ls 3 [(0, .ref (a 0)), (1, .int x1), (2, .int x2)] → W zp l ze rm_X1_beginners zs zm ([.ref (a 0)] : List Value).toArray zb zt zc zs.heap [] 0 0 (MQ zb (rdI post) ([.ref (a 0)] : List Value).toArray zs 0 0 (fun _ => False)) (F0 zm 4 ls []) := by
    intro zn
    induction zn with
    | zero => intro x1 x2 h; exact h.elim
    | succ zn ih4 =>
      intro x1 x2 h ls hl
      replace h : wb_X1_beginners_4 whos answered size post (wl_X1_beginners_4 whos answered size post zn) x1 x2 := h
      unfold wb_X1_beginners_4 at h
      refine lv_iload_n hx hb dX1_beginners_4 rfl (lv_at hl 2 rfl) ?_
      refine lv_aload_n hx hb dX1_beginners_5 rfl (lv_at hl 0 rfl) ?_
      refine va_get (D := D) (ci := 1) (v := .int size) (C := RX1) (T := TX1) (N := 10) hx hb hts hi_X1_beginners_X1 hown hK.1 hP 0 rfl rfl 7 (by decide) (hts _ k_X1_beginners_1) (fun _ h9 => h9) rfl dX1_beginners_6 ?_
      refine lv_icmp_ge (tgt := 38) hx hb dX1_beginners_9 (by decide) (fun hc => ?_) (fun hc => ?_)
      · have h := h.1 hc
        refine lv_iload_n hx hb dX1_beginners_38 rfl (lv_at hl 1 rfl) ?_
        exact W.iret (v := x1) hx hb hr (fun t ht hW => ⟨x1, rfl, h, ht⟩) (fun q hq => absurd hq List.not_mem_nil) dX1_beginners_39
      · have h := h.2 hc
        refine lv_aload_n hx hb dX1_beginners_12 rfl (lv_at hl 0 rfl) ?_
        refine lv_iload_n hx hb dX1_beginners_13 rfl (lv_at hl 2 rfl) ?_
        refine rd_callz (va_runV (As := [.int x2]) (rest := []) ⟨hx, hb, hml, hown, hts⟩ (c_X1_isBeginning l D ca a kinds whos toWhoms topics weights answered deeds size saidBits deedCount x2 _ h) (cwV 1 hts gX1_beginners_X1_isBeginning rfl rfl rfl (by decide +kernel) ⟨Nat.le_of_ble_eq_true rfl, Nat.le_of_ble_eq_true rfl⟩) (PcX.preV (q := (RX1, TX1, 10)) (ci := 1) (q0 := 0) hK hP rfl rfl hP) rfl rfl hl.1 rfl (lv_room (Nat.le_of_ble_eq_true rfl)) dX1_beginners_14 ⟨Nat.le_of_ble_eq_true rfl, Nat.le_of_ble_eq_true rfl⟩) (fun r1 h hz_r1 => ?_)
        try dsimp only at h
        refine lv_if_eq (tgt := 32) hx hb dX1_beginners_17 (by decide) (fun hc => ?_) (fun hc => ?_)
        · have h := h.1 hc
          refine lv_iinc (v := x2 + 1) (lv' := [(2, .int (x2 + 1)), (0, .ref (a 0)), (1, .int x1)]) hx hb dX1_beginners_32 hl (k := 2) rfl rfl (by decide) rfl (fun ls hl => ?_)
          refine lv_goto (tgt := 4) hx hb dX1_beginners_35 (by decide) ?_
          exact ih4 x1 (x2 + 1) h ls (lv_sub hl [1, 2, 0] rfl)
        · have h := h.2 hc
          refine lv_iload_n hx hb dX1_beginners_20 rfl (lv_at hl 1 rfl) ?_
          refine lv_aload_n hx hb dX1_beginners_21 rfl (lv_at hl 0 rfl) ?_
          refine va_get (D := D) (ci := 1) (v := .ref (a 2)) (C := RX1) (T := TX1) (N := 10) hx hb hts hi_X1_beginners_X1 hown hK.1 hP 0 rfl rfl 1 (by decide) (hts _ k_X1_beginners_2) (fun _ h9 => h9) rfl dX1_beginners_22 ?_
          refine lv_iload_n hx hb dX1_beginners_25 rfl (lv_at hl 2 rfl) ?_
          obtain ⟨hi, h⟩ := h
          refine x_iald (v := whos x2.toNatClampNeg) hx hb hK hP 2 rfl hi rfl dX1_beginners_26 ?_
          refine rd_calli (va_runSN (As := [.int (whos x2.toNatClampNeg)]) (rest := [.int x1]) ⟨hx, hb, hml, hown, hts⟩ (c_X7_bit l D ca   (whos x2.toNatClampNeg) _ h) ⟨va_cnB 1 hts gX1_beginners_X7_bit_n53 rfl rfl rfl (hK.2 (RX1, 53, yX7_bit, "IronedQuarrels") (List.mem_of_getElem? (i := 5) rfl)) (hts _ k_X1_beginners_14) (by decide +kernel) ⟨Nat.le_of_ble_eq_true rfl, Nat.le_of_ble_eq_true rfl⟩, hts _ k_X1_beginners_13, trivial⟩ (PcX.preS hK (fun k q h => by simp at h)) rfl rfl hl.1 rfl (lv_room (Nat.le_of_ble_eq_true rfl)) dX1_beginners_27 ⟨Nat.le_of_ble_eq_true rfl, Nat.le_of_ble_eq_true rfl⟩) (fun r2 h => ?_)
          try dsimp only at h
          refine lv_ior hx hb dX1_beginners_30 ?_
          refine lv_istore_n (lv' := [(1, .int (x1 ||| r2)), (0, .ref (a 0)), (2, .int x2)]) hx hb dX1_beginners_31 rfl hl (by decide) rfl (fun ls hl => ?_)
          refine lv_iinc (v := x2 + 1) (lv' := [(2, .int (x2 + 1)), (1, .int (x1 ||| r2)), (0, .ref (a 0))]) hx hb dX1_beginners_32 hl (k := 2) rfl rfl (by decide) rfl (fun ls hl => ?_)
          refine lv_goto (tgt := 4) hx hb dX1_beginners_35 (by decide) ?_
          exact ih4 (x1 ||| r2) (x2 + 1) h ls (lv_sub hl [2, 1, 0] rfl)
  unfold wp_X1_beginners at h
  refine lv_iconst (v := (0)) hx hb dX1_beginners_0 (by decide) ?_
  refine lv_istore_n (lv' := [(1, .int (0 : Int32)), (0, .ref (a 0))]) hx hb dX1_beginners_1 rfl hl (by decide) rfl (fun ls hl => ?_)
  refine lv_iconst (v := (0)) hx hb dX1_beginners_2 (by decide) ?_
  refine lv_istore_n (lv' := [(2, .int (0 : Int32)), (1, .int (0 : Int32)), (0, .ref (a 0))]) hx hb dX1_beginners_3 rfl hl (by decide) rfl (fun ls hl => ?_)
  obtain ⟨zn, h⟩ := h
  exact w_4  zn (0 : Int32) (0 : Int32) h ls (lv_sub hl [2, 1, 0] rfl)

-- IronedQuarrels$Heap.howManyOf(I)I
def wb_X1_howManyOf_4 (kinds : Nat → Int32) (size : Int32) (kind : Int32) (post : Int32 → Prop) (K4 : (Int32) → (Int32) → Prop) (x2 : Int32) (x3 : Int32) : Prop :=
  (size ≤ x3 → (post x2)) ∧ (¬ size ≤ x3 → (wp_X1_isOf kinds x3 kind (fun r1 => (r1 = 0 → (K4 x2 (x3 + 1))) ∧ (¬ r1 = 0 → (K4 (x2 + 1) (x3 + 1))))))
def wl_X1_howManyOf_4 (kinds : Nat → Int32) (size : Int32) (kind : Int32) (post : Int32 → Prop) : Nat → (Int32) → (Int32) → Prop
  | 0 => fun _ _ => False
  | zn + 1 => wb_X1_howManyOf_4 kinds size kind post (wl_X1_howManyOf_4 kinds size kind post zn)
def wp_X1_howManyOf (kinds : Nat → Int32) (size : Int32) (kind : Int32) (post : Int32 → Prop) : Prop :=
  ∃ zn, wl_X1_howManyOf_4 kinds size kind post zn (0 : Int32) (0 : Int32)
def rm_X1_howManyOf : Room := { frames := 1, cells := 0, slots := 0, locals := 23 }
theorem k_X1_howManyOf_1 : Cond.fieldLink RX1 33 "IronedQuarrels$Heap" "size" "I" ∈ wsX1_howManyOf := List.mem_of_getElem? (i := 1) (by decide +kernel)
theorem hi_X1_howManyOf_X1 : ∀ w ∈ wsX10, w ∈ wsX1_howManyOf := fun w h => List.mem_cons_of_mem _ (List.mem_append_right _ h)
set_option maxHeartbeats 4000000 in
set_option maxRecDepth 100000 in
theorem c_X1_howManyOf (l : Launch) (D : va_G) (ca : Nat → ClassId) (a : Nat → Nat) (kinds : Nat → Int32) (whos : Nat → Int32) (toWhoms : Nat → Int32) (topics : Nat → Int32) (weights : Nat → Int32) (answered : Nat → Int32) (deeds : Nat → Int32) (size : Int32) (saidBits : Int32) (deedCount : Int32) (kind : Int32) (post : Int32 → Prop) (h : wp_X1_howManyOf kinds size kind post) : Met l yX1_howManyOf wsX1_howManyOf rm_X1_howManyOf (PcX D ca [.ref (a 0), .int kind] (W_X1 ca a kinds whos toWhoms topics weights answered deeds size saidBits deedCount)) (rdI post) 0 0 (fun _ => False) := by
  refine Met.ofW (cc := cX1_howManyOf) (maxL := 4) (ret := (some .int)) (by decide) rfl ?_
  intro zp ze zs zm za zb zt zc z1 B hml hv
  obtain ⟨rfl, hP, hK⟩ := hv
  have hx := B.exec
  have hb := B.bytes
  have hr := B.returns
  have hts := atoms_spec (ws := wsX1_howManyOf) B.pre
  have hown : zs.vm.findClass RX1 = some zm.cls := findClass_of_methodNamed B.named
  have hlocks := B.notSynchronized
  have hl := lv_entry ([.ref (a 0), .int kind]) (n := 4) (Nat.le_of_ble_eq_true rfl)
  rw [lg_entry_eq]
  generalize (lg_sl ([.ref (a 0), .int kind]) ++ List.replicate (4 - (lg_sl ([.ref (a 0), .int kind])).length) Slot.unset).toArray = ls at hl ⊢
  replace hl : lv_has ls 4 [(0, .ref (a 0)), (1, .int kind)] := hl
  show W zp l ze rm_X1_howManyOf zs zm ([.ref (a 0), .int kind] : List Value).toArray zb zt zc zs.heap [] 0 0 (MQ zb (rdI post) ([.ref (a 0), .int kind] : List Value).toArray zs 0 0 (fun _ => False)) (F0 zm 0 ls [])
  have w_4 : ∀ (zn : Nat) (x2 : Int32) (x3 : Int32), wl_X1_howManyOf_4 kinds size kind post zn x2 x3 → ∀ ls : Array Slot, lv_has ls 4 [(0, .ref (a 0)), (1, .int kind), (2, .int x2), (3, .int x3)] → W zp l ze rm_X1_howManyOf zs zm ([.ref (a 0), .int kind] : List Value).toArray zb zt zc zs.heap [] 0 0 (MQ zb (rdI post) ([.ref (a 0), .int kind] : List Value).toArray zs 0 0 (fun _ => False)) (F0 zm 4 ls []) := by
    intro zn
    induction zn with
    | zero => intro x2 x3 h; exact h.elim
    | succ zn ih4 =>
      intro x2 x3 h ls hl
      replace h : wb_X1_howManyOf_4 kinds size kind post (wl_X1_howManyOf_4 kinds size kind post zn) x2 x3 := h
      unfold wb_X1_howManyOf_4 at h
      refine lv_iload_n hx hb dX1_howManyOf_4 rfl (lv_at hl 3 rfl) ?_
      refine lv_aload_n hx hb dX1_howManyOf_5 rfl (lv_at hl 0 rfl) ?_
      refine va_get (D := D) (ci := 1) (v := .int size) (C := RX1) (T := TX1) (N := 10) hx hb hts hi_X1_howManyOf_X1 hown hK.1 hP 0 rfl rfl 7 (by decide) (hts _ k_X1_howManyOf_1) (fun _ h9 => h9) rfl dX1_howManyOf_6 ?_
      refine lv_icmp_ge (tgt := 30) hx hb dX1_howManyOf_9 (by decide) (fun hc => ?_) (fun hc => ?_)
      · have h := h.1 hc
        refine lv_iload_n hx hb dX1_howManyOf_30 rfl (lv_at hl 2 rfl) ?_
        exact W.iret (v := x2) hx hb hr (fun t ht hW => ⟨x2, rfl, h, ht⟩) (fun q hq => absurd hq List.not_mem_nil) dX1_howManyOf_31
      · have h := h.2 hc
        refine lv_aload_n hx hb dX1_howManyOf_12 rfl (lv_at hl 0 rfl) ?_
        refine lv_iload_n hx hb dX1_howManyOf_13 rfl (lv_at hl 3 rfl) ?_
        refine lv_iload_n hx hb dX1_howManyOf_14 rfl (lv_at hl 1 rfl) ?_
        refine rd_callz (va_runV (As := [.int x3, .int kind]) (rest := []) ⟨hx, hb, hml, hown, hts⟩ (c_X1_isOf l D ca a kinds whos toWhoms topics weights answered deeds size saidBits deedCount x3 kind _ h) (cwV 2 hts gX1_howManyOf_X1_isOf rfl rfl rfl (by decide +kernel) ⟨Nat.le_of_ble_eq_true rfl, Nat.le_of_ble_eq_true rfl⟩) (PcX.preV (q := (RX1, TX1, 10)) (ci := 1) (q0 := 0) hK hP rfl rfl hP) rfl rfl hl.1 rfl (lv_room (Nat.le_of_ble_eq_true rfl)) dX1_howManyOf_15 ⟨Nat.le_of_ble_eq_true rfl, Nat.le_of_ble_eq_true rfl⟩) (fun r1 h hz_r1 => ?_)
        try dsimp only at h
        refine lv_if_eq (tgt := 24) hx hb dX1_howManyOf_18 (by decide) (fun hc => ?_) (fun hc => ?_)
        · have h := h.1 hc
          refine lv_iinc (v := x3 + 1) (lv' := [(3, .int (x3 + 1)), (0, .ref (a 0)), (1, .int kind), (2, .int x2)]) hx hb dX1_howManyOf_24 hl (k := 3) rfl rfl (by decide) rfl (fun ls hl => ?_)
          refine lv_goto (tgt := 4) hx hb dX1_howManyOf_27 (by decide) ?_
          exact ih4 x2 (x3 + 1) h ls (lv_sub hl [1, 2, 3, 0] rfl)
        · have h := h.2 hc
          refine lv_iinc (v := x2 + 1) (lv' := [(2, .int (x2 + 1)), (0, .ref (a 0)), (1, .int kind), (3, .int x3)]) hx hb dX1_howManyOf_21 hl (k := 2) rfl rfl (by decide) rfl (fun ls hl => ?_)
          refine lv_iinc (v := x3 + 1) (lv' := [(3, .int (x3 + 1)), (2, .int (x2 + 1)), (0, .ref (a 0)), (1, .int kind)]) hx hb dX1_howManyOf_24 hl (k := 3) rfl rfl (by decide) rfl (fun ls hl => ?_)
          refine lv_goto (tgt := 4) hx hb dX1_howManyOf_27 (by decide) ?_
          exact ih4 (x2 + 1) (x3 + 1) h ls (lv_sub hl [2, 3, 1, 0] rfl)
  unfold wp_X1_howManyOf at h
  refine lv_iconst (v := (0)) hx hb dX1_howManyOf_0 (by decide) ?_
  refine lv_istore_n (lv' := [(2, .int (0 : Int32)), (0, .ref (a 0)), (1, .int kind)]) hx hb dX1_howManyOf_1 rfl hl (by decide) rfl (fun ls hl => ?_)
  refine lv_iconst (v := (0)) hx hb dX1_howManyOf_2 (by decide) ?_
  refine lv_istore_n (lv' := [(3, .int (0 : Int32)), (2, .int (0 : Int32)), (0, .ref (a 0)), (1, .int kind)]) hx hb dX1_howManyOf_3 rfl hl (by decide) rfl (fun ls hl => ?_)
  obtain ⟨zn, h⟩ := h
  exact w_4  zn (0 : Int32) (0 : Int32) h ls (lv_sub hl [2, 3, 1, 0] rfl)

-- IronedQuarrels$Heap.empty()V
def wp_X1_empty  (post : (Int32) → (Int32) → (Int32) → Prop) : Prop :=
  post (0 : Int32) (0 : Int32) (0 : Int32)
def rm_X1_empty : Room := { frames := 0, cells := 0, slots := 0, locals := 0 }
theorem k_X1_empty_1 : Cond.fieldLink RX1 33 "IronedQuarrels$Heap" "size" "I" ∈ wsX1_empty := List.mem_of_getElem? (i := 1) (by decide +kernel)
theorem k_X1_empty_2 : Cond.fieldLink RX1 37 "IronedQuarrels$Heap" "saidBits" "I" ∈ wsX1_empty := List.mem_of_getElem? (i := 2) (by decide +kernel)
theorem k_X1_empty_3 : Cond.fieldLink RX1 40 "IronedQuarrels$Heap" "deedCount" "I" ∈ wsX1_empty := List.mem_of_getElem? (i := 3) (by decide +kernel)
theorem hi_X1_empty_X1 : ∀ w ∈ wsX10, w ∈ wsX1_empty := fun w h => List.mem_cons_of_mem _ (List.mem_append_right _ h)
set_option maxHeartbeats 4000000 in
set_option maxRecDepth 100000 in
theorem c_X1_empty (l : Launch) (D : va_G) (ca : Nat → ClassId) (a : Nat → Nat) (kinds : Nat → Int32) (whos : Nat → Int32) (toWhoms : Nat → Int32) (topics : Nat → Int32) (weights : Nat → Int32) (answered : Nat → Int32) (deeds : Nat → Int32) (size : Int32) (saidBits : Int32) (deedCount : Int32)  (post : (Int32) → (Int32) → (Int32) → Prop) (hd : va_D (fun _ => True) (W_X1 ca a kinds whos toWhoms topics weights answered deeds size saidBits deedCount)) (h : wp_X1_empty  post) : Met l yX1_empty wsX1_empty rm_X1_empty (PcX D ca [.ref (a 0)] (W_X1 ca a kinds whos toWhoms topics weights answered deeds size saidBits deedCount)) (wrV (S := (Int32) × (Int32) × (Int32)) D (W_X1 ca a kinds whos toWhoms topics weights answered deeds size saidBits deedCount) (fun u => W_X1 ca a kinds whos toWhoms topics weights answered deeds u.1 u.2.1 u.2.2) (fun u => post u.1 u.2.1 u.2.2)) 0 0 (adr (W_X1 ca a kinds whos toWhoms topics weights answered deeds size saidBits deedCount)) := by
  refine Met.ofW (cc := cX1_empty) (maxL := 1) (ret := none) (by decide) rfl ?_
  intro zp ze zs zm za zb zt zc z1 B hml hv
  obtain ⟨rfl, hP, hK⟩ := hv
  have hx := B.exec
  have hb := B.bytes
  have hr := B.returns
  have hts := atoms_spec (ws := wsX1_empty) B.pre
  have hown : zs.vm.findClass RX1 = some zm.cls := findClass_of_methodNamed B.named
  have hlocks := B.notSynchronized
  have hD : va_D (adr (W_X1 ca a kinds whos toWhoms topics weights answered deeds size saidBits deedCount)) (W_X1 ca a kinds whos toWhoms topics weights answered deeds size saidBits deedCount) := hd.adr
  have hS : va_S (adr (W_X1 ca a kinds whos toWhoms topics weights answered deeds size saidBits deedCount)) zs.heap zs.heap [] := va_S.rf
  have hl := lv_entry ([.ref (a 0)]) (n := 1) (Nat.le_of_ble_eq_true rfl)
  rw [lg_entry_eq]
  generalize (lg_sl ([.ref (a 0)]) ++ List.replicate (1 - (lg_sl ([.ref (a 0)])).length) Slot.unset).toArray = ls at hl ⊢
  replace hl : lv_has ls 1 [(0, .ref (a 0))] := hl
  show W zp l ze rm_X1_empty zs zm ([.ref (a 0)] : List Value).toArray zb zt zc zs.heap [] 0 0 (MQ zb (wrV (S := (Int32) × (Int32) × (Int32)) D (W_X1 ca a kinds whos toWhoms topics weights answered deeds size saidBits deedCount) (fun u => W_X1 ca a kinds whos toWhoms topics weights answered deeds u.1 u.2.1 u.2.2) (fun u => post u.1 u.2.1 u.2.2)) ([.ref (a 0)] : List Value).toArray zs 0 0 (adr (W_X1 ca a kinds whos toWhoms topics weights answered deeds size saidBits deedCount))) (F0 zm 0 ls [])
  unfold wp_X1_empty at h
  refine lv_aload_n hx hb dX1_empty_0 rfl (lv_at hl 0 rfl) ?_
  refine lv_iconst (v := (0)) hx hb dX1_empty_1 (by decide) ?_
  refine va_put (D := D) (ci := 1) (v := .int (0 : Int32)) (ty := .int) (C := RX1) (T := TX1) (N := 10) hx hb hts hi_X1_empty_X1 tyX1 tyX1_ok nmX1 hown hK.1 hP hD hS 0 rfl rfl 7 (by decide) (hts _ k_X1_empty_1) (fun _ h9 => h9) rfl (by decide +kernel) rfl rfl (Nat.le_of_ble_eq_true rfl) dX1_empty_2 (fun H locs hP hD hS => ?_)
  have hP : va_P D vwCl (W_X1 ca a kinds whos toWhoms topics weights answered deeds (0 : Int32) saidBits deedCount) H := hP
  have hD : va_D _ (W_X1 ca a kinds whos toWhoms topics weights answered deeds (0 : Int32) saidBits deedCount) := hD
  refine lv_aload_n hx hb dX1_empty_5 rfl (lv_at hl 0 rfl) ?_
  refine lv_iconst (v := (0)) hx hb dX1_empty_6 (by decide) ?_
  refine va_put (D := D) (ci := 1) (v := .int (0 : Int32)) (ty := .int) (C := RX1) (T := TX1) (N := 10) hx hb hts hi_X1_empty_X1 tyX1 tyX1_ok nmX1 hown hK.1 hP hD hS 0 rfl rfl 8 (by decide) (hts _ k_X1_empty_2) (fun _ h9 => h9) rfl (by decide +kernel) rfl rfl (Nat.le_of_ble_eq_true rfl) dX1_empty_7 (fun H locs hP hD hS => ?_)
  have hP : va_P D vwCl (W_X1 ca a kinds whos toWhoms topics weights answered deeds (0 : Int32) (0 : Int32) deedCount) H := hP
  have hD : va_D _ (W_X1 ca a kinds whos toWhoms topics weights answered deeds (0 : Int32) (0 : Int32) deedCount) := hD
  refine lv_aload_n hx hb dX1_empty_10 rfl (lv_at hl 0 rfl) ?_
  refine lv_iconst (v := (0)) hx hb dX1_empty_11 (by decide) ?_
  refine va_put (D := D) (ci := 1) (v := .int (0 : Int32)) (ty := .int) (C := RX1) (T := TX1) (N := 10) hx hb hts hi_X1_empty_X1 tyX1 tyX1_ok nmX1 hown hK.1 hP hD hS 0 rfl rfl 9 (by decide) (hts _ k_X1_empty_3) (fun _ h9 => h9) rfl (by decide +kernel) rfl rfl (Nat.le_of_ble_eq_true rfl) dX1_empty_12 (fun H locs hP hD hS => ?_)
  have hP : va_P D vwCl (W_X1 ca a kinds whos toWhoms topics weights answered deeds (0 : Int32) (0 : Int32) (0 : Int32)) H := hP
  have hD : va_D _ (W_X1 ca a kinds whos toWhoms topics weights answered deeds (0 : Int32) (0 : Int32) (0 : Int32)) := hD
  exact W.vret hx hb hr (fun t ht hW => ⟨⟨((0 : Int32), (0 : Int32), (0 : Int32)), rfl, h, by rw [ht]; exact hP⟩, hS.F ht⟩) hS.2.2 dX1_empty_15

-- IronedQuarrels$Heap.becomeLike(LIronedQuarrels$Heap;)V
def wp_X1_becomeLike (this_kinds : Nat → Int32) (this_whos : Nat → Int32) (this_toWhoms : Nat → Int32) (this_topics : Nat → Int32) (this_weights : Nat → Int32) (this_answered : Nat → Int32) (this_deeds : Nat → Int32) (other_kinds : Nat → Int32) (other_whos : Nat → Int32) (other_toWhoms : Nat → Int32) (other_topics : Nat → Int32) (other_weights : Nat → Int32) (other_answered : Nat → Int32) (other_deeds : Nat → Int32) (other_size : Int32) (other_saidBits : Int32) (other_deedCount : Int32) (post : (Nat → Int32) → (Nat → Int32) → (Nat → Int32) → (Nat → Int32) → (Nat → Int32) → (Nat → Int32) → (Nat → Int32) → (Int32) → (Int32) → (Int32) → Prop) : Prop :=
  post (va_cpy other_kinds this_kinds 0 0 12) (va_cpy other_whos this_whos 0 0 12) (va_cpy other_toWhoms this_toWhoms 0 0 12) (va_cpy other_topics this_topics 0 0 12) (va_cpy other_weights this_weights 0 0 12) (va_cpy other_answered this_answered 0 0 12) (va_cpy other_deeds this_deeds 0 0 40) other_size other_saidBits other_deedCount
def rm_X1_becomeLike : Room := { frames := 1, cells := 0, slots := 0, locals := 40 }
theorem k_X1_becomeLike_1 : Cond.fieldLink RX1 9 "IronedQuarrels$Heap" "kinds" "[I" ∈ wsX1_becomeLike := List.mem_of_getElem? (i := 1) (by decide +kernel)
theorem k_X1_becomeLike_2 : Cond.methodLink RX1 43 arraycopyName ∈ wsX1_becomeLike := List.mem_of_getElem? (i := 2) (by decide +kernel)
theorem k_X1_becomeLike_3 : Cond.native arraycopyName ∈ wsX1_becomeLike := List.mem_of_getElem? (i := 3) (by decide +kernel)
theorem k_X1_becomeLike_4 : Cond.static arraycopyName ∈ wsX1_becomeLike := List.mem_of_getElem? (i := 4) (by decide +kernel)
theorem k_X1_becomeLike_5 : Cond.initialized "java/lang/System" ∈ wsX1_becomeLike := List.mem_of_getElem? (i := 5) (by decide +kernel)
theorem k_X1_becomeLike_6 : Cond.fieldLink RX1 15 "IronedQuarrels$Heap" "whos" "[I" ∈ wsX1_becomeLike := List.mem_of_getElem? (i := 6) (by decide +kernel)
theorem k_X1_becomeLike_7 : Cond.fieldLink RX1 18 "IronedQuarrels$Heap" "toWhoms" "[I" ∈ wsX1_becomeLike := List.mem_of_getElem? (i := 7) (by decide +kernel)
theorem k_X1_becomeLike_8 : Cond.fieldLink RX1 21 "IronedQuarrels$Heap" "topics" "[I" ∈ wsX1_becomeLike := List.mem_of_getElem? (i := 8) (by decide +kernel)
theorem k_X1_becomeLike_9 : Cond.fieldLink RX1 24 "IronedQuarrels$Heap" "weights" "[I" ∈ wsX1_becomeLike := List.mem_of_getElem? (i := 9) (by decide +kernel)
theorem k_X1_becomeLike_10 : Cond.fieldLink RX1 27 "IronedQuarrels$Heap" "answered" "[I" ∈ wsX1_becomeLike := List.mem_of_getElem? (i := 10) (by decide +kernel)
theorem k_X1_becomeLike_11 : Cond.fieldLink RX1 30 "IronedQuarrels$Heap" "deeds" "[I" ∈ wsX1_becomeLike := List.mem_of_getElem? (i := 11) (by decide +kernel)
theorem k_X1_becomeLike_12 : Cond.fieldLink RX1 33 "IronedQuarrels$Heap" "size" "I" ∈ wsX1_becomeLike := List.mem_of_getElem? (i := 12) (by decide +kernel)
theorem k_X1_becomeLike_13 : Cond.fieldLink RX1 37 "IronedQuarrels$Heap" "saidBits" "I" ∈ wsX1_becomeLike := List.mem_of_getElem? (i := 13) (by decide +kernel)
theorem k_X1_becomeLike_14 : Cond.fieldLink RX1 40 "IronedQuarrels$Heap" "deedCount" "I" ∈ wsX1_becomeLike := List.mem_of_getElem? (i := 14) (by decide +kernel)
theorem hi_X1_becomeLike_X1 : ∀ w ∈ wsX10, w ∈ wsX1_becomeLike := fun w h => List.mem_cons_of_mem _ (List.mem_append_right _ h)
set_option maxHeartbeats 4000000 in
set_option maxRecDepth 100000 in
theorem c_X1_becomeLike (l : Launch) (D : va_G) (ca : Nat → ClassId) (a : Nat → Nat) (a_other : Nat → Nat) (this_kinds : Nat → Int32) (this_whos : Nat → Int32) (this_toWhoms : Nat → Int32) (this_topics : Nat → Int32) (this_weights : Nat → Int32) (this_answered : Nat → Int32) (this_deeds : Nat → Int32) (this_size : Int32) (this_saidBits : Int32) (this_deedCount : Int32) (other_kinds : Nat → Int32) (other_whos : Nat → Int32) (other_toWhoms : Nat → Int32) (other_topics : Nat → Int32) (other_weights : Nat → Int32) (other_answered : Nat → Int32) (other_deeds : Nat → Int32) (other_size : Int32) (other_saidBits : Int32) (other_deedCount : Int32)  (post : (Nat → Int32) → (Nat → Int32) → (Nat → Int32) → (Nat → Int32) → (Nat → Int32) → (Nat → Int32) → (Nat → Int32) → (Int32) → (Int32) → (Int32) → Prop) (hd : va_D (fun _ => True) ((W_X1 ca a this_kinds this_whos this_toWhoms this_topics this_weights this_answered this_deeds this_size this_saidBits this_deedCount) ++ (W_X1 ca a_other other_kinds other_whos other_toWhoms other_topics other_weights other_answered other_deeds other_size other_saidBits other_deedCount))) (h : wp_X1_becomeLike this_kinds this_whos this_toWhoms this_topics this_weights this_answered this_deeds other_kinds other_whos other_toWhoms other_topics other_weights other_answered other_deeds other_size other_saidBits other_deedCount post) : Met l yX1_becomeLike wsX1_becomeLike rm_X1_becomeLike (PcX D ca [.ref (a 0), .ref (a_other 0)] ((W_X1 ca a this_kinds this_whos this_toWhoms this_topics this_weights this_answered this_deeds this_size this_saidBits this_deedCount) ++ (W_X1 ca a_other other_kinds other_whos other_toWhoms other_topics other_weights other_answered other_deeds other_size other_saidBits other_deedCount))) (wrV (S := (Nat → Int32) × (Nat → Int32) × (Nat → Int32) × (Nat → Int32) × (Nat → Int32) × (Nat → Int32) × (Nat → Int32) × (Int32) × (Int32) × (Int32)) D ((W_X1 ca a this_kinds this_whos this_toWhoms this_topics this_weights this_answered this_deeds this_size this_saidBits this_deedCount) ++ (W_X1 ca a_other other_kinds other_whos other_toWhoms other_topics other_weights other_answered other_deeds other_size other_saidBits other_deedCount)) (fun u => (W_X1 ca a u.1 u.2.1 u.2.2.1 u.2.2.2.1 u.2.2.2.2.1 u.2.2.2.2.2.1 u.2.2.2.2.2.2.1 u.2.2.2.2.2.2.2.1 u.2.2.2.2.2.2.2.2.1 u.2.2.2.2.2.2.2.2.2) ++ (W_X1 ca a_other other_kinds other_whos other_toWhoms other_topics other_weights other_answered other_deeds other_size other_saidBits other_deedCount)) (fun u => post u.1 u.2.1 u.2.2.1 u.2.2.2.1 u.2.2.2.2.1 u.2.2.2.2.2.1 u.2.2.2.2.2.2.1 u.2.2.2.2.2.2.2.1 u.2.2.2.2.2.2.2.2.1 u.2.2.2.2.2.2.2.2.2)) 0 0 (adr ((W_X1 ca a this_kinds this_whos this_toWhoms this_topics this_weights this_answered this_deeds this_size this_saidBits this_deedCount) ++ (W_X1 ca a_other other_kinds other_whos other_toWhoms other_topics other_weights other_answered other_deeds other_size other_saidBits other_deedCount))) := by
  refine Met.ofW (cc := cX1_becomeLike) (maxL := 2) (ret := none) (by decide) rfl ?_
  intro zp ze zs zm za zb zt zc z1 B hml hv
  obtain ⟨rfl, hP, hK⟩ := hv
  have hx := B.exec
  have hb := B.bytes
  have hr := B.returns
  have hts := atoms_spec (ws := wsX1_becomeLike) B.pre
  have hown : zs.vm.findClass RX1 = some zm.cls := findClass_of_methodNamed B.named
  have hlocks := B.notSynchronized
  have hD : va_D (adr ((W_X1 ca a this_kinds this_whos this_toWhoms this_topics this_weights this_answered this_deeds this_size this_saidBits this_deedCount) ++ (W_X1 ca a_other other_kinds other_whos other_toWhoms other_topics other_weights other_answered other_deeds other_size other_saidBits other_deedCount))) ((W_X1 ca a this_kinds this_whos this_toWhoms this_topics this_weights this_answered this_deeds this_size this_saidBits this_deedCount) ++ (W_X1 ca a_other other_kinds other_whos other_toWhoms other_topics other_weights other_answered other_deeds other_size other_saidBits other_deedCount)) := hd.adr
  have hS : va_S (adr ((W_X1 ca a this_kinds this_whos this_toWhoms this_topics this_weights this_answered this_deeds this_size this_saidBits this_deedCount) ++ (W_X1 ca a_other other_kinds other_whos other_toWhoms other_topics other_weights other_answered other_deeds other_size other_saidBits other_deedCount))) zs.heap zs.heap [] := va_S.rf
  have hl := lv_entry ([.ref (a 0), .ref (a_other 0)]) (n := 2) (Nat.le_of_ble_eq_true rfl)
  rw [lg_entry_eq]
  generalize (lg_sl ([.ref (a 0), .ref (a_other 0)]) ++ List.replicate (2 - (lg_sl ([.ref (a 0), .ref (a_other 0)])).length) Slot.unset).toArray = ls at hl ⊢
  replace hl : lv_has ls 2 [(0, .ref (a 0)), (1, .ref (a_other 0))] := hl
  show W zp l ze rm_X1_becomeLike zs zm ([.ref (a 0), .ref (a_other 0)] : List Value).toArray zb zt zc zs.heap [] 0 0 (MQ zb (wrV (S := (Nat → Int32) × (Nat → Int32) × (Nat → Int32) × (Nat → Int32) × (Nat → Int32) × (Nat → Int32) × (Nat → Int32) × (Int32) × (Int32) × (Int32)) D ((W_X1 ca a this_kinds this_whos this_toWhoms this_topics this_weights this_answered this_deeds this_size this_saidBits this_deedCount) ++ (W_X1 ca a_other other_kinds other_whos other_toWhoms other_topics other_weights other_answered other_deeds other_size other_saidBits other_deedCount)) (fun u => (W_X1 ca a u.1 u.2.1 u.2.2.1 u.2.2.2.1 u.2.2.2.2.1 u.2.2.2.2.2.1 u.2.2.2.2.2.2.1 u.2.2.2.2.2.2.2.1 u.2.2.2.2.2.2.2.2.1 u.2.2.2.2.2.2.2.2.2) ++ (W_X1 ca a_other other_kinds other_whos other_toWhoms other_topics other_weights other_answered other_deeds other_size other_saidBits other_deedCount)) (fun u => post u.1 u.2.1 u.2.2.1 u.2.2.2.1 u.2.2.2.2.1 u.2.2.2.2.2.1 u.2.2.2.2.2.2.1 u.2.2.2.2.2.2.2.1 u.2.2.2.2.2.2.2.2.1 u.2.2.2.2.2.2.2.2.2)) ([.ref (a 0), .ref (a_other 0)] : List Value).toArray zs 0 0 (adr ((W_X1 ca a this_kinds this_whos this_toWhoms this_topics this_weights this_answered this_deeds this_size this_saidBits this_deedCount) ++ (W_X1 ca a_other other_kinds other_whos other_toWhoms other_topics other_weights other_answered other_deeds other_size other_saidBits other_deedCount)))) (F0 zm 0 ls [])
  unfold wp_X1_becomeLike at h
  refine lv_aload_n hx hb dX1_becomeLike_0 rfl (lv_at hl 1 rfl) ?_
  refine va_get (D := D) (ci := 1) (v := .ref (a_other 1)) (C := RX1) (T := TX1) (N := 10) hx hb hts hi_X1_becomeLike_X1 hown hK.1 hP 8 rfl rfl 0 (by decide) (hts _ k_X1_becomeLike_1) (fun _ h9 => h9) rfl dX1_becomeLike_1 ?_
  refine lv_iconst (v := (0)) hx hb dX1_becomeLike_4 (by decide) ?_
  refine lv_aload_n hx hb dX1_becomeLike_5 rfl (lv_at hl 0 rfl) ?_
  refine va_get (D := D) (ci := 1) (v := .ref (a 1)) (C := RX1) (T := TX1) (N := 10) hx hb hts hi_X1_becomeLike_X1 hown hK.1 hP 0 rfl rfl 0 (by decide) (hts _ k_X1_becomeLike_1) (fun _ h9 => h9) rfl dX1_becomeLike_6 ?_
  refine lv_iconst (v := (0)) hx hb dX1_becomeLike_9 (by decide) ?_
  refine lv_bipush (v := (12)) hx hb dX1_becomeLike_10 (by decide) ?_
  refine va_copyi hx hb (by rw [hml]; exact hl.1.symm) hown (hts _ k_X1_becomeLike_2) (hts _ k_X1_becomeLike_3) (hts _ k_X1_becomeLike_4) (hts _ k_X1_becomeLike_5) hK.1 hP hD hS 9 1 0 0 rfl rfl rfl rfl rfl (by decide) (by decide) (by decide) (by decide) (by decide) (fun _ _ => rfl) (Nat.le_of_ble_eq_true rfl) (Nat.le_of_ble_eq_true rfl) dX1_becomeLike_12 (fun H locs hP hD hS => ?_)
  have hP : va_P D vwCl ((W_X1 ca a (va_cpy other_kinds this_kinds 0 0 12) this_whos this_toWhoms this_topics this_weights this_answered this_deeds this_size this_saidBits this_deedCount) ++ (W_X1 ca a_other other_kinds other_whos other_toWhoms other_topics other_weights other_answered other_deeds other_size other_saidBits other_deedCount)) H := hP
  have hD : va_D _ ((W_X1 ca a (va_cpy other_kinds this_kinds 0 0 12) this_whos this_toWhoms this_topics this_weights this_answered this_deeds this_size this_saidBits this_deedCount) ++ (W_X1 ca a_other other_kinds other_whos other_toWhoms other_topics other_weights other_answered other_deeds other_size other_saidBits other_deedCount)) := hD
  refine lv_aload_n hx hb dX1_becomeLike_15 rfl (lv_at hl 1 rfl) ?_
  refine va_get (D := D) (ci := 1) (v := .ref (a_other 2)) (C := RX1) (T := TX1) (N := 10) hx hb hts hi_X1_becomeLike_X1 hown hK.1 hP 8 rfl rfl 1 (by decide) (hts _ k_X1_becomeLike_6) (fun _ h9 => h9) rfl dX1_becomeLike_16 ?_
  refine lv_iconst (v := (0)) hx hb dX1_becomeLike_19 (by decide) ?_
  refine lv_aload_n hx hb dX1_becomeLike_20 rfl (lv_at hl 0 rfl) ?_
  refine va_get (D := D) (ci := 1) (v := .ref (a 2)) (C := RX1) (T := TX1) (N := 10) hx hb hts hi_X1_becomeLike_X1 hown hK.1 hP 0 rfl rfl 1 (by decide) (hts _ k_X1_becomeLike_6) (fun _ h9 => h9) rfl dX1_becomeLike_21 ?_
  refine lv_iconst (v := (0)) hx hb dX1_becomeLike_24 (by decide) ?_
  refine lv_bipush (v := (12)) hx hb dX1_becomeLike_25 (by decide) ?_
  refine va_copyi hx hb (by rw [hml]; exact hl.1.symm) hown (hts _ k_X1_becomeLike_2) (hts _ k_X1_becomeLike_3) (hts _ k_X1_becomeLike_4) (hts _ k_X1_becomeLike_5) hK.1 hP hD hS 10 2 0 0 rfl rfl rfl rfl rfl (by decide) (by decide) (by decide) (by decide) (by decide) (fun _ _ => rfl) (Nat.le_of_ble_eq_true rfl) (Nat.le_of_ble_eq_true rfl) dX1_becomeLike_27 (fun H locs hP hD hS => ?_)
  have hP : va_P D vwCl ((W_X1 ca a (va_cpy other_kinds this_kinds 0 0 12) (va_cpy other_whos this_whos 0 0 12) this_toWhoms this_topics this_weights this_answered this_deeds this_size this_saidBits this_deedCount) ++ (W_X1 ca a_other other_kinds other_whos other_toWhoms other_topics other_weights other_answered other_deeds other_size other_saidBits other_deedCount)) H := hP
  have hD : va_D _ ((W_X1 ca a (va_cpy other_kinds this_kinds 0 0 12) (va_cpy other_whos this_whos 0 0 12) this_toWhoms this_topics this_weights this_answered this_deeds this_size this_saidBits this_deedCount) ++ (W_X1 ca a_other other_kinds other_whos other_toWhoms other_topics other_weights other_answered other_deeds other_size other_saidBits other_deedCount)) := hD
  refine lv_aload_n hx hb dX1_becomeLike_30 rfl (lv_at hl 1 rfl) ?_
  refine va_get (D := D) (ci := 1) (v := .ref (a_other 3)) (C := RX1) (T := TX1) (N := 10) hx hb hts hi_X1_becomeLike_X1 hown hK.1 hP 8 rfl rfl 2 (by decide) (hts _ k_X1_becomeLike_7) (fun _ h9 => h9) rfl dX1_becomeLike_31 ?_
  refine lv_iconst (v := (0)) hx hb dX1_becomeLike_34 (by decide) ?_
  refine lv_aload_n hx hb dX1_becomeLike_35 rfl (lv_at hl 0 rfl) ?_
  refine va_get (D := D) (ci := 1) (v := .ref (a 3)) (C := RX1) (T := TX1) (N := 10) hx hb hts hi_X1_becomeLike_X1 hown hK.1 hP 0 rfl rfl 2 (by decide) (hts _ k_X1_becomeLike_7) (fun _ h9 => h9) rfl dX1_becomeLike_36 ?_
  refine lv_iconst (v := (0)) hx hb dX1_becomeLike_39 (by decide) ?_
  refine lv_bipush (v := (12)) hx hb dX1_becomeLike_40 (by decide) ?_
  refine va_copyi hx hb (by rw [hml]; exact hl.1.symm) hown (hts _ k_X1_becomeLike_2) (hts _ k_X1_becomeLike_3) (hts _ k_X1_becomeLike_4) (hts _ k_X1_becomeLike_5) hK.1 hP hD hS 11 3 0 0 rfl rfl rfl rfl rfl (by decide) (by decide) (by decide) (by decide) (by decide) (fun _ _ => rfl) (Nat.le_of_ble_eq_true rfl) (Nat.le_of_ble_eq_true rfl) dX1_becomeLike_42 (fun H locs hP hD hS => ?_)
  have hP : va_P D vwCl ((W_X1 ca a (va_cpy other_kinds this_kinds 0 0 12) (va_cpy other_whos this_whos 0 0 12) (va_cpy other_toWhoms this_toWhoms 0 0 12) this_topics this_weights this_answered this_deeds this_size this_saidBits this_deedCount) ++ (W_X1 ca a_other other_kinds other_whos other_toWhoms other_topics other_weights other_answered other_deeds other_size other_saidBits other_deedCount)) H := hP
  have hD : va_D _ ((W_X1 ca a (va_cpy other_kinds this_kinds 0 0 12) (va_cpy other_whos this_whos 0 0 12) (va_cpy other_toWhoms this_toWhoms 0 0 12) this_topics this_weights this_answered this_deeds this_size this_saidBits this_deedCount) ++ (W_X1 ca a_other other_kinds other_whos other_toWhoms other_topics other_weights other_answered other_deeds other_size other_saidBits other_deedCount)) := hD
  refine lv_aload_n hx hb dX1_becomeLike_45 rfl (lv_at hl 1 rfl) ?_
  refine va_get (D := D) (ci := 1) (v := .ref (a_other 4)) (C := RX1) (T := TX1) (N := 10) hx hb hts hi_X1_becomeLike_X1 hown hK.1 hP 8 rfl rfl 3 (by decide) (hts _ k_X1_becomeLike_8) (fun _ h9 => h9) rfl dX1_becomeLike_46 ?_
  refine lv_iconst (v := (0)) hx hb dX1_becomeLike_49 (by decide) ?_
  refine lv_aload_n hx hb dX1_becomeLike_50 rfl (lv_at hl 0 rfl) ?_
  refine va_get (D := D) (ci := 1) (v := .ref (a 4)) (C := RX1) (T := TX1) (N := 10) hx hb hts hi_X1_becomeLike_X1 hown hK.1 hP 0 rfl rfl 3 (by decide) (hts _ k_X1_becomeLike_8) (fun _ h9 => h9) rfl dX1_becomeLike_51 ?_
  refine lv_iconst (v := (0)) hx hb dX1_becomeLike_54 (by decide) ?_
  refine lv_bipush (v := (12)) hx hb dX1_becomeLike_55 (by decide) ?_
  refine va_copyi hx hb (by rw [hml]; exact hl.1.symm) hown (hts _ k_X1_becomeLike_2) (hts _ k_X1_becomeLike_3) (hts _ k_X1_becomeLike_4) (hts _ k_X1_becomeLike_5) hK.1 hP hD hS 12 4 0 0 rfl rfl rfl rfl rfl (by decide) (by decide) (by decide) (by decide) (by decide) (fun _ _ => rfl) (Nat.le_of_ble_eq_true rfl) (Nat.le_of_ble_eq_true rfl) dX1_becomeLike_57 (fun H locs hP hD hS => ?_)
  have hP : va_P D vwCl ((W_X1 ca a (va_cpy other_kinds this_kinds 0 0 12) (va_cpy other_whos this_whos 0 0 12) (va_cpy other_toWhoms this_toWhoms 0 0 12) (va_cpy other_topics this_topics 0 0 12) this_weights this_answered this_deeds this_size this_saidBits this_deedCount) ++ (W_X1 ca a_other other_kinds other_whos other_toWhoms other_topics other_weights other_answered other_deeds other_size other_saidBits other_deedCount)) H := hP
  have hD : va_D _ ((W_X1 ca a (va_cpy other_kinds this_kinds 0 0 12) (va_cpy other_whos this_whos 0 0 12) (va_cpy other_toWhoms this_toWhoms 0 0 12) (va_cpy other_topics this_topics 0 0 12) this_weights this_answered this_deeds this_size this_saidBits this_deedCount) ++ (W_X1 ca a_other other_kinds other_whos other_toWhoms other_topics other_weights other_answered other_deeds other_size other_saidBits other_deedCount)) := hD
  refine lv_aload_n hx hb dX1_becomeLike_60 rfl (lv_at hl 1 rfl) ?_
  refine va_get (D := D) (ci := 1) (v := .ref (a_other 5)) (C := RX1) (T := TX1) (N := 10) hx hb hts hi_X1_becomeLike_X1 hown hK.1 hP 8 rfl rfl 4 (by decide) (hts _ k_X1_becomeLike_9) (fun _ h9 => h9) rfl dX1_becomeLike_61 ?_
  refine lv_iconst (v := (0)) hx hb dX1_becomeLike_64 (by decide) ?_
  refine lv_aload_n hx hb dX1_becomeLike_65 rfl (lv_at hl 0 rfl) ?_
  refine va_get (D := D) (ci := 1) (v := .ref (a 5)) (C := RX1) (T := TX1) (N := 10) hx hb hts hi_X1_becomeLike_X1 hown hK.1 hP 0 rfl rfl 4 (by decide) (hts _ k_X1_becomeLike_9) (fun _ h9 => h9) rfl dX1_becomeLike_66 ?_
  refine lv_iconst (v := (0)) hx hb dX1_becomeLike_69 (by decide) ?_
  refine lv_bipush (v := (12)) hx hb dX1_becomeLike_70 (by decide) ?_
  refine va_copyi hx hb (by rw [hml]; exact hl.1.symm) hown (hts _ k_X1_becomeLike_2) (hts _ k_X1_becomeLike_3) (hts _ k_X1_becomeLike_4) (hts _ k_X1_becomeLike_5) hK.1 hP hD hS 13 5 0 0 rfl rfl rfl rfl rfl (by decide) (by decide) (by decide) (by decide) (by decide) (fun _ _ => rfl) (Nat.le_of_ble_eq_true rfl) (Nat.le_of_ble_eq_true rfl) dX1_becomeLike_72 (fun H locs hP hD hS => ?_)
  have hP : va_P D vwCl ((W_X1 ca a (va_cpy other_kinds this_kinds 0 0 12) (va_cpy other_whos this_whos 0 0 12) (va_cpy other_toWhoms this_toWhoms 0 0 12) (va_cpy other_topics this_topics 0 0 12) (va_cpy other_weights this_weights 0 0 12) this_answered this_deeds this_size this_saidBits this_deedCount) ++ (W_X1 ca a_other other_kinds other_whos other_toWhoms other_topics other_weights other_answered other_deeds other_size other_saidBits other_deedCount)) H := hP
  have hD : va_D _ ((W_X1 ca a (va_cpy other_kinds this_kinds 0 0 12) (va_cpy other_whos this_whos 0 0 12) (va_cpy other_toWhoms this_toWhoms 0 0 12) (va_cpy other_topics this_topics 0 0 12) (va_cpy other_weights this_weights 0 0 12) this_answered this_deeds this_size this_saidBits this_deedCount) ++ (W_X1 ca a_other other_kinds other_whos other_toWhoms other_topics other_weights other_answered other_deeds other_size other_saidBits other_deedCount)) := hD
  refine lv_aload_n hx hb dX1_becomeLike_75 rfl (lv_at hl 1 rfl) ?_
  refine va_get (D := D) (ci := 1) (v := .ref (a_other 6)) (C := RX1) (T := TX1) (N := 10) hx hb hts hi_X1_becomeLike_X1 hown hK.1 hP 8 rfl rfl 5 (by decide) (hts _ k_X1_becomeLike_10) (fun _ h9 => h9) rfl dX1_becomeLike_76 ?_
  refine lv_iconst (v := (0)) hx hb dX1_becomeLike_79 (by decide) ?_
  refine lv_aload_n hx hb dX1_becomeLike_80 rfl (lv_at hl 0 rfl) ?_
  refine va_get (D := D) (ci := 1) (v := .ref (a 6)) (C := RX1) (T := TX1) (N := 10) hx hb hts hi_X1_becomeLike_X1 hown hK.1 hP 0 rfl rfl 5 (by decide) (hts _ k_X1_becomeLike_10) (fun _ h9 => h9) rfl dX1_becomeLike_81 ?_
  refine lv_iconst (v := (0)) hx hb dX1_becomeLike_84 (by decide) ?_
  refine lv_bipush (v := (12)) hx hb dX1_becomeLike_85 (by decide) ?_
  refine va_copyi hx hb (by rw [hml]; exact hl.1.symm) hown (hts _ k_X1_becomeLike_2) (hts _ k_X1_becomeLike_3) (hts _ k_X1_becomeLike_4) (hts _ k_X1_becomeLike_5) hK.1 hP hD hS 14 6 0 0 rfl rfl rfl rfl rfl (by decide) (by decide) (by decide) (by decide) (by decide) (fun _ _ => rfl) (Nat.le_of_ble_eq_true rfl) (Nat.le_of_ble_eq_true rfl) dX1_becomeLike_87 (fun H locs hP hD hS => ?_)
  have hP : va_P D vwCl ((W_X1 ca a (va_cpy other_kinds this_kinds 0 0 12) (va_cpy other_whos this_whos 0 0 12) (va_cpy other_toWhoms this_toWhoms 0 0 12) (va_cpy other_topics this_topics 0 0 12) (va_cpy other_weights this_weights 0 0 12) (va_cpy other_answered this_answered 0 0 12) this_deeds this_size this_saidBits this_deedCount) ++ (W_X1 ca a_other other_kinds other_whos other_toWhoms other_topics other_weights other_answered other_deeds other_size other_saidBits other_deedCount)) H := hP
  have hD : va_D _ ((W_X1 ca a (va_cpy other_kinds this_kinds 0 0 12) (va_cpy other_whos this_whos 0 0 12) (va_cpy other_toWhoms this_toWhoms 0 0 12) (va_cpy other_topics this_topics 0 0 12) (va_cpy other_weights this_weights 0 0 12) (va_cpy other_answered this_answered 0 0 12) this_deeds this_size this_saidBits this_deedCount) ++ (W_X1 ca a_other other_kinds other_whos other_toWhoms other_topics other_weights other_answered other_deeds other_size other_saidBits other_deedCount)) := hD
  refine lv_aload_n hx hb dX1_becomeLike_90 rfl (lv_at hl 1 rfl) ?_
  refine va_get (D := D) (ci := 1) (v := .ref (a_other 7)) (C := RX1) (T := TX1) (N := 10) hx hb hts hi_X1_becomeLike_X1 hown hK.1 hP 8 rfl rfl 6 (by decide) (hts _ k_X1_becomeLike_11) (fun _ h9 => h9) rfl dX1_becomeLike_91 ?_
  refine lv_iconst (v := (0)) hx hb dX1_becomeLike_94 (by decide) ?_
  refine lv_aload_n hx hb dX1_becomeLike_95 rfl (lv_at hl 0 rfl) ?_
  refine va_get (D := D) (ci := 1) (v := .ref (a 7)) (C := RX1) (T := TX1) (N := 10) hx hb hts hi_X1_becomeLike_X1 hown hK.1 hP 0 rfl rfl 6 (by decide) (hts _ k_X1_becomeLike_11) (fun _ h9 => h9) rfl dX1_becomeLike_96 ?_
  refine lv_iconst (v := (0)) hx hb dX1_becomeLike_99 (by decide) ?_
  refine lv_bipush (v := (40)) hx hb dX1_becomeLike_100 (by decide) ?_
  refine va_copyi hx hb (by rw [hml]; exact hl.1.symm) hown (hts _ k_X1_becomeLike_2) (hts _ k_X1_becomeLike_3) (hts _ k_X1_becomeLike_4) (hts _ k_X1_becomeLike_5) hK.1 hP hD hS 15 7 0 0 rfl rfl rfl rfl rfl (by decide) (by decide) (by decide) (by decide) (by decide) (fun _ _ => rfl) (Nat.le_of_ble_eq_true rfl) (Nat.le_of_ble_eq_true rfl) dX1_becomeLike_102 (fun H locs hP hD hS => ?_)
  have hP : va_P D vwCl ((W_X1 ca a (va_cpy other_kinds this_kinds 0 0 12) (va_cpy other_whos this_whos 0 0 12) (va_cpy other_toWhoms this_toWhoms 0 0 12) (va_cpy other_topics this_topics 0 0 12) (va_cpy other_weights this_weights 0 0 12) (va_cpy other_answered this_answered 0 0 12) (va_cpy other_deeds this_deeds 0 0 40) this_size this_saidBits this_deedCount) ++ (W_X1 ca a_other other_kinds other_whos other_toWhoms other_topics other_weights other_answered other_deeds other_size other_saidBits other_deedCount)) H := hP
  have hD : va_D _ ((W_X1 ca a (va_cpy other_kinds this_kinds 0 0 12) (va_cpy other_whos this_whos 0 0 12) (va_cpy other_toWhoms this_toWhoms 0 0 12) (va_cpy other_topics this_topics 0 0 12) (va_cpy other_weights this_weights 0 0 12) (va_cpy other_answered this_answered 0 0 12) (va_cpy other_deeds this_deeds 0 0 40) this_size this_saidBits this_deedCount) ++ (W_X1 ca a_other other_kinds other_whos other_toWhoms other_topics other_weights other_answered other_deeds other_size other_saidBits other_deedCount)) := hD
  refine lv_aload_n hx hb dX1_becomeLike_105 rfl (lv_at hl 0 rfl) ?_
  refine lv_aload_n hx hb dX1_becomeLike_106 rfl (lv_at hl 1 rfl) ?_
  refine va_get (D := D) (ci := 1) (v := .int other_size) (C := RX1) (T := TX1) (N := 10) hx hb hts hi_X1_becomeLike_X1 hown hK.1 hP 8 rfl rfl 7 (by decide) (hts _ k_X1_becomeLike_12) (fun _ h9 => h9) rfl dX1_becomeLike_107 ?_
  refine va_put (D := D) (ci := 1) (v := .int other_size) (ty := .int) (C := RX1) (T := TX1) (N := 10) hx hb hts hi_X1_becomeLike_X1 tyX1 tyX1_ok nmX1 hown hK.1 hP hD hS 0 rfl rfl 7 (by decide) (hts _ k_X1_becomeLike_12) (fun _ h9 => h9) rfl (by decide +kernel) rfl rfl (Nat.le_of_ble_eq_true rfl) dX1_becomeLike_110 (fun H locs hP hD hS => ?_)
  have hP : va_P D vwCl ((W_X1 ca a (va_cpy other_kinds this_kinds 0 0 12) (va_cpy other_whos this_whos 0 0 12) (va_cpy other_toWhoms this_toWhoms 0 0 12) (va_cpy other_topics this_topics 0 0 12) (va_cpy other_weights this_weights 0 0 12) (va_cpy other_answered this_answered 0 0 12) (va_cpy other_deeds this_deeds 0 0 40) other_size this_saidBits this_deedCount) ++ (W_X1 ca a_other other_kinds other_whos other_toWhoms other_topics other_weights other_answered other_deeds other_size other_saidBits other_deedCount)) H := hP
  have hD : va_D _ ((W_X1 ca a (va_cpy other_kinds this_kinds 0 0 12) (va_cpy other_whos this_whos 0 0 12) (va_cpy other_toWhoms this_toWhoms 0 0 12) (va_cpy other_topics this_topics 0 0 12) (va_cpy other_weights this_weights 0 0 12) (va_cpy other_answered this_answered 0 0 12) (va_cpy other_deeds this_deeds 0 0 40) other_size this_saidBits this_deedCount) ++ (W_X1 ca a_other other_kinds other_whos other_toWhoms other_topics other_weights other_answered other_deeds other_size other_saidBits other_deedCount)) := hD
  refine lv_aload_n hx hb dX1_becomeLike_113 rfl (lv_at hl 0 rfl) ?_
  refine lv_aload_n hx hb dX1_becomeLike_114 rfl (lv_at hl 1 rfl) ?_
  refine va_get (D := D) (ci := 1) (v := .int other_saidBits) (C := RX1) (T := TX1) (N := 10) hx hb hts hi_X1_becomeLike_X1 hown hK.1 hP 8 rfl rfl 8 (by decide) (hts _ k_X1_becomeLike_13) (fun _ h9 => h9) rfl dX1_becomeLike_115 ?_
  refine va_put (D := D) (ci := 1) (v := .int other_saidBits) (ty := .int) (C := RX1) (T := TX1) (N := 10) hx hb hts hi_X1_becomeLike_X1 tyX1 tyX1_ok nmX1 hown hK.1 hP hD hS 0 rfl rfl 8 (by decide) (hts _ k_X1_becomeLike_13) (fun _ h9 => h9) rfl (by decide +kernel) rfl rfl (Nat.le_of_ble_eq_true rfl) dX1_becomeLike_118 (fun H locs hP hD hS => ?_)
  have hP : va_P D vwCl ((W_X1 ca a (va_cpy other_kinds this_kinds 0 0 12) (va_cpy other_whos this_whos 0 0 12) (va_cpy other_toWhoms this_toWhoms 0 0 12) (va_cpy other_topics this_topics 0 0 12) (va_cpy other_weights this_weights 0 0 12) (va_cpy other_answered this_answered 0 0 12) (va_cpy other_deeds this_deeds 0 0 40) other_size other_saidBits this_deedCount) ++ (W_X1 ca a_other other_kinds other_whos other_toWhoms other_topics other_weights other_answered other_deeds other_size other_saidBits other_deedCount)) H := hP
  have hD : va_D _ ((W_X1 ca a (va_cpy other_kinds this_kinds 0 0 12) (va_cpy other_whos this_whos 0 0 12) (va_cpy other_toWhoms this_toWhoms 0 0 12) (va_cpy other_topics this_topics 0 0 12) (va_cpy other_weights this_weights 0 0 12) (va_cpy other_answered this_answered 0 0 12) (va_cpy other_deeds this_deeds 0 0 40) other_size other_saidBits this_deedCount) ++ (W_X1 ca a_other other_kinds other_whos other_toWhoms other_topics other_weights other_answered other_deeds other_size other_saidBits other_deedCount)) := hD
  refine lv_aload_n hx hb dX1_becomeLike_121 rfl (lv_at hl 0 rfl) ?_
  refine lv_aload_n hx hb dX1_becomeLike_122 rfl (lv_at hl 1 rfl) ?_
  refine va_get (D := D) (ci := 1) (v := .int other_deedCount) (C := RX1) (T := TX1) (N := 10) hx hb hts hi_X1_becomeLike_X1 hown hK.1 hP 8 rfl rfl 9 (by decide) (hts _ k_X1_becomeLike_14) (fun _ h9 => h9) rfl dX1_becomeLike_123 ?_
  refine va_put (D := D) (ci := 1) (v := .int other_deedCount) (ty := .int) (C := RX1) (T := TX1) (N := 10) hx hb hts hi_X1_becomeLike_X1 tyX1 tyX1_ok nmX1 hown hK.1 hP hD hS 0 rfl rfl 9 (by decide) (hts _ k_X1_becomeLike_14) (fun _ h9 => h9) rfl (by decide +kernel) rfl rfl (Nat.le_of_ble_eq_true rfl) dX1_becomeLike_126 (fun H locs hP hD hS => ?_)
  have hP : va_P D vwCl ((W_X1 ca a (va_cpy other_kinds this_kinds 0 0 12) (va_cpy other_whos this_whos 0 0 12) (va_cpy other_toWhoms this_toWhoms 0 0 12) (va_cpy other_topics this_topics 0 0 12) (va_cpy other_weights this_weights 0 0 12) (va_cpy other_answered this_answered 0 0 12) (va_cpy other_deeds this_deeds 0 0 40) other_size other_saidBits other_deedCount) ++ (W_X1 ca a_other other_kinds other_whos other_toWhoms other_topics other_weights other_answered other_deeds other_size other_saidBits other_deedCount)) H := hP
  have hD : va_D _ ((W_X1 ca a (va_cpy other_kinds this_kinds 0 0 12) (va_cpy other_whos this_whos 0 0 12) (va_cpy other_toWhoms this_toWhoms 0 0 12) (va_cpy other_topics this_topics 0 0 12) (va_cpy other_weights this_weights 0 0 12) (va_cpy other_answered this_answered 0 0 12) (va_cpy other_deeds this_deeds 0 0 40) other_size other_saidBits other_deedCount) ++ (W_X1 ca a_other other_kinds other_whos other_toWhoms other_topics other_weights other_answered other_deeds other_size other_saidBits other_deedCount)) := hD
  exact W.vret hx hb hr (fun t ht hW => ⟨⟨(va_cpy other_kinds this_kinds 0 0 12, va_cpy other_whos this_whos 0 0 12, va_cpy other_toWhoms this_toWhoms 0 0 12, va_cpy other_topics this_topics 0 0 12, va_cpy other_weights this_weights 0 0 12, va_cpy other_answered this_answered 0 0 12, va_cpy other_deeds this_deeds 0 0 40, other_size, other_saidBits, other_deedCount), rfl, h, by rw [ht]; exact hP⟩, hS.F ht⟩) hS.2.2 dX1_becomeLike_129
