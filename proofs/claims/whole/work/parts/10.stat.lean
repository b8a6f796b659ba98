/-! the worlds: an object's cells, by class -/
abbrev W_X0 (ca : Nat → ClassId) (a : Nat → Nat) (tells : Nat → Int32) : va_W := [(a 0, .inr (0, [.ref (a 1)])), (a 1, .inl (ca 0, 6, .inl tells))]
abbrev W_X1 (ca : Nat → ClassId) (a : Nat → Nat) (kinds whos toWhoms topics weights answered deeds : Nat → Int32) (size saidBits deedCount : Int32) : va_W := [(a 0, .inr (1, [.ref (a 1), .ref (a 2), .ref (a 3), .ref (a 4), .ref (a 5), .ref (a 6), .ref (a 7), .int size, .int saidBits, .int deedCount])), (a 1, .inl (ca 0, 12, .inl kinds)), (a 2, .inl (ca 0, 12, .inl whos)), (a 3, .inl (ca 0, 12, .inl toWhoms)), (a 4, .inl (ca 0, 12, .inl topics)), (a 5, .inl (ca 0, 12, .inl weights)), (a 6, .inl (ca 0, 12, .inl answered)), (a 7, .inl (ca 0, 40, .inl deeds))]
abbrev W_X2 (ca : Nat → ClassId) (a : Nat → Nat) (least others holders : Nat → Int32) : va_W := [(a 0, .inr (2, [.ref (a 1), .ref (a 2), .ref (a 3)])), (a 1, .inl (ca 0, 4096, .inl least)), (a 2, .inl (ca 0, 12, .inl others)), (a 3, .inl (ca 0, 12, .inl holders))]
abbrev W_X4 (ca : Nat → ClassId) (a : Nat → Nat) (top bottom : Int64) : va_W := [(a 0, .inr (3, [.long top, .long bottom]))]
abbrev W_X5 (ca : Nat → ClassId) (a : Nat → Nat) (ns nc : Nat) (width : Int32) (sizes cells : Nat → Int32) : va_W := [(a 0, .inr (4, [.int width, .ref (a 1), .ref (a 2)])), (a 1, .inl (ca 0, ns, .inl sizes)), (a 2, .inl (ca 0, nc, .inl cells))]
abbrev W_X6 (ca : Nat → ClassId) (a : Nat → Nat) (often : Nat → Int32) (latest : Int32) : va_W := [(a 0, .inr (5, [.ref (a 1), .int latest])), (a 1, .inl (ca 0, 6, .inl often))]
abbrev W_K (ca : Nat → ClassId) (a : Nat) (kept : Nat → Option Nat) : va_W := [(a, .inl (ca 3, 3, .inr (.inr (.inr (.inr kept)))))]
abbrev W_AI (ca : Nat → ClassId) (a : Nat) (n : Nat) (data : Nat → Int32) : va_W := [(a, .inl (ca 0, n, .inl data))]
abbrev W_X7 (a : Nat → Nat) (aR aT aH aD : Nat → Nat) (aK : Nat) (aI aC aS aY : Nat → Nat) (lastTold : Int32) : va_W := [(a 0, .inr (6, [.ref (aR 0), .ref (aT 0), .ref (aH 0), .ref (aD 0), .ref aK, .ref (aI 0), .ref (aC 0), .ref (aS 0), .ref (aY 0), .int lastTold]))]
abbrev W_X8 (ca : Nat → ClassId) (a : Nat → Nat) (rowSizes rows textSizes texts now keeps kept : Nat → Int32) (asked : Int32) (upper lower : Int64) (finding : Int32) (findings read : Nat → Int32) (at_ : Int32) (costs : Nat → Int32) (ways : Nat → Int64) (reach : Nat → Int32) : va_W := [(a 0, .inr (7, [.ref (a 1), .ref (a 2), .ref (a 3), .ref (a 4), .ref (a 5), .ref (a 6), .ref (a 7), .int asked, .long upper, .long lower, .int finding, .ref (a 8), .ref (a 9), .int at_, .ref (a 10), .ref (a 11), .ref (a 12)])), (a 1, .inl (ca 0, 6, .inl rowSizes)), (a 2, .inl (ca 0, 240, .inl rows)), (a 3, .inl (ca 0, 4, .inl textSizes)), (a 4, .inl (ca 0, 320, .inl texts)), (a 5, .inl (ca 0, 115, .inl now)), (a 6, .inl (ca 0, 345, .inl keeps)), (a 7, .inl (ca 1, 3, .inl kept)), (a 8, .inl (ca 0, 6, .inl findings)), (a 9, .inl (ca 0, 115, .inl read)), (a 10, .inl (ca 0, 4096, .inl costs)), (a 11, .inl (ca 2, 4096, .inr (.inl ways))), (a 12, .inl (ca 0, 6, .inl reach))]
-- java/util/Arrays.rangeCheck(III)V
def wp_J7_rangeCheck_23922 (x0 : Int32) (x1 : Int32) (x2 : Int32) (post : Prop) : Prop :=
  (x1 ≤ x2 → ((0 ≤ x1 → ((x2 ≤ x0 → post) ∧ (¬ x2 ≤ x0 → False))) ∧ (¬ 0 ≤ x1 → False))) ∧ (¬ x1 ≤ x2 → False)
def rm_J7_rangeCheck_23922 : Room := { frames := 0, cells := 0, slots := 0, locals := 0 }
set_option maxHeartbeats 4000000 in
set_option maxRecDepth 100000 in
theorem c_J7_rangeCheck_23922 (l : Launch) (D : va_G) (ca : Nat → ClassId)   (x0 : Int32) (x1 : Int32) (x2 : Int32) (post : Prop) (h : wp_J7_rangeCheck_23922 x0 x1 x2 post) : Met l yJ7_rangeCheck_23922 wsJ7_rangeCheck_23922 rm_J7_rangeCheck_23922 (PcX D ca [.int x0, .int x1, .int x2] ([])) (rdV post) 0 0 (fun _ => False) := by
  refine Met.ofW (cc := cJ7_rangeCheck_23922) (maxL := 3) (ret := none) (by decide) rfl ?_
  intro zp ze zs zm za zb zt zc z1 B hml hv
  obtain ⟨rfl, hP, hK⟩ := hv
  have hx := B.exec
  have hb := B.bytes
  have hr := B.returns
  have hts := atoms_spec (ws := wsJ7_rangeCheck_23922) B.pre
  have hown : zs.vm.findClass RJ7 = some zm.cls := findClass_of_methodNamed B.named
  have hlocks := B.notSynchronized
  have hl := lv_entry ([.int x0, .int x1, .int x2]) (n := 3) (Nat.le_of_ble_eq_true rfl)
  rw [lg_entry_eq]
  generalize (lg_sl ([.int x0, .int x1, .int x2]) ++ List.replicate (3 - (lg_sl ([.int x0, .int x1, .int x2])).length) Slot.unset).toArray = ls at hl ⊢
  replace hl : lv_has ls 3 [(0, .int x0), (1, .int x1), (2, .int x2)] := hl
  show W zp l ze rm_J7_rangeCheck_23922 zs zm ([.int x0, .int x1, .int x2] : List Value).toArray zb zt zc zs.heap [] 0 0 (MQ zb (rdV post) ([.int x0, .int x1, .int x2] : List Value).toArray zs 0 0 (fun _ => False)) (F0 zm 0 ls [])
  unfold wp_J7_rangeCheck_23922 at h
  refine lv_iload_n hx hb dJ7_rangeCheck_23922_0 rfl (lv_at hl 1 rfl) ?_
  refine lv_iload_n hx hb dJ7_rangeCheck_23922_1 rfl (lv_at hl 2 rfl) ?_
  refine lv_icmp_le (tgt := 46) hx hb dJ7_rangeCheck_23922_2 (by decide) (fun hc => ?_) (fun hc => ?_)
  · have h := h.1 hc
    refine lv_iload_n hx hb dJ7_rangeCheck_23922_46 rfl (lv_at hl 1 rfl) ?_
    refine lv_if_ge (tgt := 59) hx hb dJ7_rangeCheck_23922_47 (by decide) (fun hc => ?_) (fun hc => ?_)
    · have h := h.1 hc
      refine lv_iload_n hx hb dJ7_rangeCheck_23922_59 rfl (lv_at hl 2 rfl) ?_
      refine lv_iload_n hx hb dJ7_rangeCheck_23922_60 rfl (lv_at hl 0 rfl) ?_
      refine lv_icmp_le (tgt := 73) hx hb dJ7_rangeCheck_23922_61 (by decide) (fun hc => ?_) (fun hc => ?_)
      · have h := h.1 hc
        exact W.vret hx hb hr (fun t ht hW => ⟨rfl, h, ht⟩) (fun q hq => absurd hq List.not_mem_nil) dJ7_rangeCheck_23922_73
      · have h := h.2 hc
        exact h.elim
    · have h := h.2 hc
      exact h.elim
  · have h := h.2 hc
    exact h.elim

-- java/util/Arrays.fill([IIII)V
def wb_J7_fill_fda19_10 (x0_n : Nat) (x2 : Int32) (x3 : Int32) (post : (Nat → Int32) → Prop) (K10 : (Nat → Int32) → (Int32) → Prop) (x0_data : Nat → Int32) (x4 : Int32) : Prop :=
  (x2 ≤ x4 → (post x0_data)) ∧ (¬ x2 ≤ x4 → (vp_in x4 x0_n ∧ K10 (upd x0_data (x4.toNatClampNeg) x3) (x4 + 1)))
def wl_J7_fill_fda19_10 (x0_n : Nat) (x2 : Int32) (x3 : Int32) (post : (Nat → Int32) → Prop) : Nat → (Nat → Int32) → (Int32) → Prop
  | 0 => fun _ _ => False
  | zn + 1 => wb_J7_fill_fda19_10 x0_n x2 x3 post (wl_J7_fill_fda19_10 x0_n x2 x3 post zn)
def wp_J7_fill_fda19 (x0_n : Nat) (x0_data : Nat → Int32) (x1 : Int32) (x2 : Int32) (x3 : Int32) (post : (Nat → Int32) → Prop) : Prop :=
  wp_J7_rangeCheck_23922 (nI x0_n) x1 x2 (∃ zn, wl_J7_fill_fda19_10 x0_n x2 x3 post zn x0_data x1)
def rm_J7_fill_fda19 : Room := { frames := 1, cells := 0, slots := 0, locals := 22 }
set_option maxHeartbeats 4000000 in
set_option maxRecDepth 100000 in
theorem c_J7_fill_fda19 (l : Launch) (D : va_G) (ca : Nat → ClassId) (a_x0 : Nat) (x0_n : Nat) (x0_data : Nat → Int32) (x1 : Int32) (x2 : Int32) (x3 : Int32) (post : (Nat → Int32) → Prop) (hd : va_D (fun _ => True) (W_AI ca a_x0 x0_n x0_data)) (h : wp_J7_fill_fda19 x0_n x0_data x1 x2 x3 post) : Met l yJ7_fill_fda19 wsJ7_fill_fda19 rm_J7_fill_fda19 (PcX D ca [.ref a_x0, .int x1, .int x2, .int x3] (W_AI ca a_x0 x0_n x0_data)) (wrV (S := (Nat → Int32)) D (W_AI ca a_x0 x0_n x0_data) (fun u => W_AI ca a_x0 x0_n u) (fun u => post u)) 0 0 (adr (W_AI ca a_x0 x0_n x0_data)) := by
  refine Met.ofW (cc := cJ7_fill_fda19) (maxL := 5) (ret := none) (by decide) rfl ?_
  intro zp ze zs zm za zb zt zc z1 B hml hv
  obtain ⟨rfl, hP, hK⟩ := hv
  have hx := B.exec
  have hb := B.bytes
  have hr := B.returns
  have hts := atoms_spec (ws := wsJ7_fill_fda19) B.pre
  have hown : zs.vm.findClass RJ7 = some zm.cls := findClass_of_methodNamed B.named
  have hlocks := B.notSynchronized
  have hD : va_D (adr (W_AI ca a_x0 x0_n x0_data)) (W_AI ca a_x0 x0_n x0_data) := hd.adr
  have hS : va_S (adr (W_AI ca a_x0 x0_n x0_data)) zs.heap zs.heap [] := va_S.rf
  have hl := lv_entry ([.ref a_x0, .int x1, .int x2, .int x3]) (n := 5) (Nat.le_of_ble_eq_true rfl)
  rw [lg_entry_eq]
  generalize (lg_sl ([.ref a_x0, .int x1, .int x2, .int x3]) ++ List.replicate (5 - (lg_sl ([.ref a_x0, .int x1, .int x2, .int x3])).length) Slot.unset).toArray = ls at hl ⊢
  replace hl : lv_has ls 5 [(0, .ref a_x0), (1, .int x1), (2, .int x2), (3, .int x3)] := hl
  show W zp l ze rm_J7_fill_fda19 zs zm ([.ref a_x0, .int x1, .int x2, .int x3] : List Value).toArray zb zt zc zs.heap [] 0 0 (MQ zb (wrV (S := (Nat → Int32)) D (W_AI ca a_x0 x0_n x0_data) (fun u => W_AI ca a_x0 x0_n u) (fun u => post u)) ([.ref a_x0, .int x1, .int x2, .int x3] : List Value).toArray zs 0 0 (adr (W_AI ca a_x0 x0_n x0_data))) (F0 zm 0 ls [])
  have w_10 : ∀ (zn : Nat) (x0_data : Nat → Int32) (x4 : Int32), wl_J7_fill_fda19_10 x0_n x2 x3 post zn x0_data x4 → ∀ (H : Heap) (locs : List Loc), va_P D vwCl (W_AI ca a_x0 x0_n x0_data) H → va_D (adr (W_AI ca a_x0 x0_n x0_data)) (W_AI ca a_x0 x0_n x0_data) → va_S (adr (W_AI ca a_x0 x0_n x0_data)) zs.heap H locs → ∀ ls : Array Slot, lv_has ls 5 [(0, .ref a_x0), (2, .int x2), (3, .int x3), (4, .int x4)] → W zp l ze rm_J7_fill_fda19 zs zm ([.ref a_x0, .int x1, .int x2, .int x3] : List Value).toArray zb zt zc H locs 0 0 (MQ zb (wrV (S := (Nat → Int32)) D (W_AI ca a_x0 x0_n x0_data) (fun u => W_AI ca a_x0 x0_n u) (fun u => post u)) ([.ref a_x0, .int x1, .int x2, .int x3] : List Value).toArray zs 0 0 (adr (W_AI ca a_x0 x0_n x0_data))) (F0 zm 10 ls []) := by
    intro zn
    induction zn with
    | zero => intro x0_data x4 h; exact h.elim
    | succ zn ih10 =>
      intro x0_data x4 h H locs hP hD hS ls hl
      replace h : wb_J7_fill_fda19_10 x0_n x2 x3 post (wl_J7_fill_fda19_10 x0_n x2 x3 post zn) x0_data x4 := h
      unfold wb_J7_fill_fda19_10 at h
      refine lv_iload hx hb dJ7_fill_fda19_10 (lv_at hl 3 rfl) ?_
      refine lv_iload_n hx hb dJ7_fill_fda19_12 rfl (lv_at hl 1 rfl) ?_
      refine lv_icmp_ge (tgt := 27) hx hb dJ7_fill_fda19_13 (by decide) (fun hc => ?_) (fun hc => ?_)
      · have h := h.1 hc
        exact W.vret hx hb hr (fun t ht hW => ⟨⟨x0_data, rfl, h, by rw [ht]; exact hP⟩, hS.F ht⟩) hS.2.2 dJ7_fill_fda19_27
      · have h := h.2 hc
        refine lv_aload_n hx hb dJ7_fill_fda19_16 rfl (lv_at hl 0 rfl) ?_
        refine lv_iload hx hb dJ7_fill_fda19_17 (lv_at hl 3 rfl) ?_
        refine lv_iload_n hx hb dJ7_fill_fda19_19 rfl (lv_at hl 2 rfl) ?_
        obtain ⟨hi, h⟩ := h
        refine x_iast (ws' := W_AI ca a_x0 x0_n (upd x0_data (x4.toNatClampNeg) x3)) hx hb hK hP hD hS 0 rfl hi (k := (x4.toNatClampNeg)) rfl rfl dJ7_fill_fda19_20 (fun H locs hP hD hS => ?_)
        refine lv_iinc (v := x4 + 1) (lv' := [(4, .int (x4 + 1)), (0, .ref a_x0), (2, .int x2), (3, .int x3)]) hx hb dJ7_fill_fda19_21 hl (k := 3) rfl rfl (by decide) rfl (fun ls hl => ?_)
        refine lv_goto (tgt := 10) hx hb dJ7_fill_fda19_24 (by decide) ?_
        exact ih10 (upd x0_data (x4.toNatClampNeg) x3) (x4 + 1) h _ _ hP hD hS ls (lv_sub hl [1, 2, 3, 0] rfl)
  unfold wp_J7_fill_fda19 at h
  refine lv_aload_n hx hb dJ7_fill_fda19_0 rfl (lv_at hl 0 rfl) ?_
  refine x_alen (v := nI x0_n) hx hb hK hP 0 rfl rfl dJ7_fill_fda19_1 ?_
  refine lv_iload_n hx hb dJ7_fill_fda19_2 rfl (lv_at hl 1 rfl) ?_
  refine lv_iload_n hx hb dJ7_fill_fda19_3 rfl (lv_at hl 2 rfl) ?_
  refine rd_callv (va_runS (As := [.int (nI x0_n), .int x1, .int x2]) (rest := []) ⟨hx, hb, hml, hown, hts⟩ (c_J7_rangeCheck_23922 l D ca   (nI x0_n) x1 x2 _ h) (va_cwS 3 hts gJ7_fill_fda19_J7_rangeCheck_23922 rfl rfl rfl (by decide +kernel) ⟨Nat.le_of_ble_eq_true rfl, Nat.le_of_ble_eq_true rfl⟩) (PcX.preS hK (fun k q h => by simp at h)) rfl rfl hl.1 rfl (lv_room (Nat.le_of_ble_eq_true rfl)) dJ7_fill_fda19_4 ⟨Nat.le_of_ble_eq_true rfl, Nat.le_of_ble_eq_true rfl⟩) (fun h => ?_)
  try dsimp only at h
  refine lv_iload_n hx hb dJ7_fill_fda19_7 rfl (lv_at hl 1 rfl) ?_
  refine lv_istore (lv' := [(4, .int x1), (0, .ref a_x0), (1, .int x1), (2, .int x2), (3, .int x3)]) hx hb dJ7_fill_fda19_8 hl (by decide) rfl (fun ls hl => ?_)
  obtain ⟨zn, h⟩ := h
  exact w_10  zn x0_data x1 h _ _ hP hD hS ls (lv_sub hl [1, 3, 4, 0] rfl)

-- IronedQuarrels.hasBit(II)Z
def wp_X7_hasBit (bits : Int32) (i : Int32) (post : Int32 → Prop) : Prop :=
  (((bits >>> (i &&& 31)) &&& (1 : Int32)) = 0 → (post (0 : Int32))) ∧ (¬ ((bits >>> (i &&& 31)) &&& (1 : Int32)) = 0 → (post (1 : Int32)))
def rm_X7_hasBit : Room := { frames := 0, cells := 0, slots := 0, locals := 0 }
set_option maxHeartbeats 4000000 in
set_option maxRecDepth 100000 in
theorem c_X7_hasBit (l : Launch) (D : va_G) (ca : Nat → ClassId)   (bits : Int32) (i : Int32) (post : Int32 → Prop) (h : wp_X7_hasBit bits i post) : Met l yX7_hasBit wsX7_hasBit rm_X7_hasBit (PcX D ca [.int bits, .int i] ([])) (rdZ post) 0 0 (fun _ => False) := by
  refine Met.ofW (cc := cX7_hasBit) (maxL := 2) (ret := (some .boolean)) (by decide) rfl ?_
  intro zp ze zs zm za zb zt zc z1 B hml hv
  obtain ⟨rfl, hP, hK⟩ := hv
  have hx := B.exec
  have hb := B.bytes
  have hr := B.returns
  have hts := atoms_spec (ws := wsX7_hasBit) B.pre
  have hown : zs.vm.findClass RX7 = some zm.cls := findClass_of_methodNamed B.named
  have hlocks := B.notSynchronized
  have hl := lv_entry ([.int bits, .int i]) (n := 2) (Nat.le_of_ble_eq_true rfl)
  rw [lg_entry_eq]
  generalize (lg_sl ([.int bits, .int i]) ++ List.replicate (2 - (lg_sl ([.int bits, .int i])).length) Slot.unset).toArray = ls at hl ⊢
  replace hl : lv_has ls 2 [(0, .int bits), (1, .int i)] := hl
  show W zp l ze rm_X7_hasBit zs zm ([.int bits, .int i] : List Value).toArray zb zt zc zs.heap [] 0 0 (MQ zb (rdZ post) ([.int bits, .int i] : List Value).toArray zs 0 0 (fun _ => False)) (F0 zm 0 ls [])
  unfold wp_X7_hasBit at h
  refine lv_iload_n hx hb dX7_hasBit_0 rfl (lv_at hl 0 rfl) ?_
  refine lv_iload_n hx hb dX7_hasBit_1 rfl (lv_at hl 1 rfl) ?_
  refine lv_ishr hx hb dX7_hasBit_2 ?_
  refine lv_iconst (v := (1)) hx hb dX7_hasBit_3 (by decide) ?_
  refine lv_iand hx hb dX7_hasBit_4 ?_
  refine lv_if_eq (tgt := 12) hx hb dX7_hasBit_5 (by decide) (fun hc => ?_) (fun hc => ?_)
  · have h := h.1 hc
    refine lv_iconst (v := (0)) hx hb dX7_hasBit_12 (by decide) ?_
    exact W.zret (v := (0 : Int32)) hx hb hr nar0 (fun t ht hW => ⟨(0 : Int32), rfl, ⟨h, nar0⟩, ht⟩) (fun q hq => absurd hq List.not_mem_nil) dX7_hasBit_13
  · have h := h.2 hc
    refine lv_iconst (v := (1)) hx hb dX7_hasBit_8 (by decide) ?_
    refine lv_goto (tgt := 13) hx hb dX7_hasBit_9 (by decide) ?_
    exact W.zret (v := (1 : Int32)) hx hb hr nar1 (fun t ht hW => ⟨(1 : Int32), rfl, ⟨h, nar1⟩, ht⟩) (fun q hq => absurd hq List.not_mem_nil) dX7_hasBit_13

-- IronedQuarrels.bit(I)I
def wp_X7_bit (i : Int32) (post : Int32 → Prop) : Prop :=
  post ((1 : Int32) <<< (i &&& 31))
def rm_X7_bit : Room := { frames := 0, cells := 0, slots := 0, locals := 0 }
set_option maxHeartbeats 4000000 in
set_option maxRecDepth 100000 in
theorem c_X7_bit (l : Launch) (D : va_G) (ca : Nat → ClassId)   (i : Int32) (post : Int32 → Prop) (h : wp_X7_bit i post) : Met l yX7_bit wsX7_bit rm_X7_bit (PcX D ca [.int i] ([])) (rdI post) 0 0 (fun _ => False) := by
  refine Met.ofW (cc := cX7_bit) (maxL := 1) (ret := (some .int)) (by decide) rfl ?_
  intro zp ze zs zm za zb zt zc z1 B hml hv
  obtain ⟨rfl, hP, hK⟩ := hv
  have hx := B.exec
  have hb := B.bytes
  have hr := B.returns
  have hts := atoms_spec (ws := wsX7_bit) B.pre
  have hown : zs.vm.findClass RX7 = some zm.cls := findClass_of_methodNamed B.named
  have hlocks := B.notSynchronized
  have hl := lv_entry ([.int i]) (n := 1) (Nat.le_of_ble_eq_true rfl)
  rw [lg_entry_eq]
  generalize (lg_sl ([.int i]) ++ List.replicate (1 - (lg_sl ([.int i])).length) Slot.unset).toArray = ls at hl ⊢
  replace hl : lv_has ls 1 [(0, .int i)] := hl
  show W zp l ze rm_X7_bit zs zm ([.int i] : List Value).toArray zb zt zc zs.heap [] 0 0 (MQ zb (rdI post) ([.int i] : List Value).toArray zs 0 0 (fun _ => False)) (F0 zm 0 ls [])
  unfold wp_X7_bit at h
  refine lv_iconst (v := (1)) hx hb dX7_bit_0 (by decide) ?_
  refine lv_iload_n hx hb dX7_bit_1 rfl (lv_at hl 0 rfl) ?_
  refine lv_ishl hx hb dX7_bit_2 ?_
  exact W.iret (v := (1 : Int32) <<< (i &&& 31)) hx hb hr (fun t ht hW => ⟨(1 : Int32) <<< (i &&& 31), rfl, h, ht⟩) (fun q hq => absurd hq List.not_mem_nil) dX7_bit_3

-- java/lang/Integer.bitCount(I)I
def wp_J6_bitCount_0f7a4 (x0 : Int32) (post : Int32 → Prop) : Prop :=
  post ((((((((x0 - (((x0.toUInt32 >>> ((1 : Int32).toUInt32 &&& Int32.toUInt32 31)).toInt32) &&& (1431655765 : Int32))) &&& (858993459 : Int32)) + ((((x0 - (((x0.toUInt32 >>> ((1 : Int32).toUInt32 &&& Int32.toUInt32 31)).toInt32) &&& (1431655765 : Int32))).toUInt32 >>> ((2 : Int32).toUInt32 &&& Int32.toUInt32 31)).toInt32) &&& (858993459 : Int32))) + (((((x0 - (((x0.toUInt32 >>> ((1 : Int32).toUInt32 &&& Int32.toUInt32 31)).toInt32) &&& (1431655765 : Int32))) &&& (858993459 : Int32)) + ((((x0 - (((x0.toUInt32 >>> ((1 : Int32).toUInt32 &&& Int32.toUInt32 31)).toInt32) &&& (1431655765 : Int32))).toUInt32 >>> ((2 : Int32).toUInt32 &&& Int32.toUInt32 31)).toInt32) &&& (858993459 : Int32))).toUInt32 >>> ((4 : Int32).toUInt32 &&& Int32.toUInt32 31)).toInt32)) &&& (252645135 : Int32)) + (((((((x0 - (((x0.toUInt32 >>> ((1 : Int32).toUInt32 &&& Int32.toUInt32 31)).toInt32) &&& (1431655765 : Int32))) &&& (858993459 : Int32)) + ((((x0 - (((x0.toUInt32 >>> ((1 : Int32).toUInt32 &&& Int32.toUInt32 31)).toInt32) &&& (1431655765 : Int32))).toUInt32 >>> ((2 : Int32).toUInt32 &&& Int32.toUInt32 31)).toInt32) &&& (858993459 : Int32))) + (((((x0 - (((x0.toUInt32 >>> ((1 : Int32).toUInt32 &&& Int32.toUInt32 31)).toInt32) &&& (1431655765 : Int32))) &&& (858993459 : Int32)) + ((((x0 - (((x0.toUInt32 >>> ((1 : Int32).toUInt32 &&& Int32.toUInt32 31)).toInt32) &&& (1431655765 : Int32))).toUInt32 >>> ((2 : Int32).toUInt32 &&& Int32.toUInt32 31)).toInt32) &&& (858993459 : Int32))).toUInt32 >>> ((4 : Int32).toUInt32 &&& Int32.toUInt32 31)).toInt32)) &&& (252645135 : Int32)).toUInt32 >>> ((8 : Int32).toUInt32 &&& Int32.toUInt32 31)).toInt32)) + ((((((((x0 - (((x0.toUInt32 >>> ((1 : Int32).toUInt32 &&& Int32.toUInt32 31)).toInt32) &&& (1431655765 : Int32))) &&& (858993459 : Int32)) + ((((x0 - (((x0.toUInt32 >>> ((1 : Int32).toUInt32 &&& Int32.toUInt32 31)).toInt32) &&& (1431655765 : Int32))).toUInt32 >>> ((2 : Int32).toUInt32 &&& Int32.toUInt32 31)).toInt32) &&& (858993459 : Int32))) + (((((x0 - (((x0.toUInt32 >>> ((1 : Int32).toUInt32 &&& Int32.toUInt32 31)).toInt32) &&& (1431655765 : Int32))) &&& (858993459 : Int32)) + ((((x0 - (((x0.toUInt32 >>> ((1 : Int32).toUInt32 &&& Int32.toUInt32 31)).toInt32) &&& (1431655765 : Int32))).toUInt32 >>> ((2 : Int32).toUInt32 &&& Int32.toUInt32 31)).toInt32) &&& (858993459 : Int32))).toUInt32 >>> ((4 : Int32).toUInt32 &&& Int32.toUInt32 31)).toInt32)) &&& (252645135 : Int32)) + (((((((x0 - (((x0.toUInt32 >>> ((1 : Int32).toUInt32 &&& Int32.toUInt32 31)).toInt32) &&& (1431655765 : Int32))) &&& (858993459 : Int32)) + ((((x0 - (((x0.toUInt32 >>> ((1 : Int32).toUInt32 &&& Int32.toUInt32 31)).toInt32) &&& (1431655765 : Int32))).toUInt32 >>> ((2 : Int32).toUInt32 &&& Int32.toUInt32 31)).toInt32) &&& (858993459 : Int32))) + (((((x0 - (((x0.toUInt32 >>> ((1 : Int32).toUInt32 &&& Int32.toUInt32 31)).toInt32) &&& (1431655765 : Int32))) &&& (858993459 : Int32)) + ((((x0 - (((x0.toUInt32 >>> ((1 : Int32).toUInt32 &&& Int32.toUInt32 31)).toInt32) &&& (1431655765 : Int32))).toUInt32 >>> ((2 : Int32).toUInt32 &&& Int32.toUInt32 31)).toInt32) &&& (858993459 : Int32))).toUInt32 >>> ((4 : Int32).toUInt32 &&& Int32.toUInt32 31)).toInt32)) &&& (252645135 : Int32)).toUInt32 >>> ((8 : Int32).toUInt32 &&& Int32.toUInt32 31)).toInt32)).toUInt32 >>> ((16 : Int32).toUInt32 &&& Int32.toUInt32 31)).toInt32)) &&& (63 : Int32))
def rm_J6_bitCount_0f7a4 : Room := { frames := 0, cells := 0, slots := 0, locals := 0 }
theorem k_J6_bitCount_0f7a4_1 : Cond.constant RJ6 265 (1431655765) ∈ wsJ6_bitCount_0f7a4 := List.mem_of_getElem? (i := 1) (by decide +kernel)
theorem k_J6_bitCount_0f7a4_2 : Cond.constant RJ6 266 (858993459) ∈ wsJ6_bitCount_0f7a4 := List.mem_of_getElem? (i := 2) (by decide +kernel)
theorem k_J6_bitCount_0f7a4_3 : Cond.constant RJ6 267 (252645135) ∈ wsJ6_bitCount_0f7a4 := List.mem_of_getElem? (i := 3) (by decide +kernel)
set_option maxHeartbeats 4000000 in
set_option maxRecDepth 100000 in
theorem c_J6_bitCount_0f7a4 (l : Launch) (D : va_G) (ca : Nat → ClassId)   (x0 : Int32) (post : Int32 → Prop) (h : wp_J6_bitCount_0f7a4 x0 post) : Met l yJ6_bitCount_0f7a4 wsJ6_bitCount_0f7a4 rm_J6_bitCount_0f7a4 (PcX D ca [.int x0] ([])) (rdI post) 0 0 (fun _ => False) := by
  refine Met.ofW (cc := cJ6_bitCount_0f7a4) (maxL := 1) (ret := (some .int)) (by decide) rfl ?_
  intro zp ze zs zm za zb zt zc z1 B hml hv
  obtain ⟨rfl, hP, hK⟩ := hv
  have hx := B.exec
  have hb := B.bytes
  have hr := B.returns
  have hts := atoms_spec (ws := wsJ6_bitCount_0f7a4) B.pre
  have hown : zs.vm.findClass RJ6 = some zm.cls := findClass_of_methodNamed B.named
  have hlocks := B.notSynchronized
  have hl := lv_entry ([.int x0]) (n := 1) (Nat.le_of_ble_eq_true rfl)
  rw [lg_entry_eq]
  generalize (lg_sl ([.int x0]) ++ List.replicate (1 - (lg_sl ([.int x0])).length) Slot.unset).toArray = ls at hl ⊢
  replace hl : lv_has ls 1 [(0, .int x0)] := hl
  show W zp l ze rm_J6_bitCount_0f7a4 zs zm ([.int x0] : List Value).toArray zb zt zc zs.heap [] 0 0 (MQ zb (rdI post) ([.int x0] : List Value).toArray zs 0 0 (fun _ => False)) (F0 zm 0 ls [])
  unfold wp_J6_bitCount_0f7a4 at h
  refine lv_iload_n hx hb dJ6_bitCount_0f7a4_0 rfl (lv_at hl 0 rfl) ?_
  refine lv_iload_n hx hb dJ6_bitCount_0f7a4_1 rfl (lv_at hl 0 rfl) ?_
  refine lv_iconst (v := (1)) hx hb dJ6_bitCount_0f7a4_2 (by decide) ?_
  refine lv_iushr hx hb dJ6_bitCount_0f7a4_3 rfl ?_
  refine lv_ldcw (v := (1431655765)) hx hb hown (hts _ k_J6_bitCount_0f7a4_1) dJ6_bitCount_0f7a4_4 ?_
  refine lv_iand hx hb dJ6_bitCount_0f7a4_7 ?_
  refine lv_isub hx hb dJ6_bitCount_0f7a4_8 ?_
  refine lv_istore_n (lv' := [(0, .int (x0 - (((x0.toUInt32 >>> ((1 : Int32).toUInt32 &&& Int32.toUInt32 31)).toInt32) &&& (1431655765 : Int32))))]) hx hb dJ6_bitCount_0f7a4_9 rfl hl (by decide) rfl (fun ls hl => ?_)
  refine lv_iload_n hx hb dJ6_bitCount_0f7a4_10 rfl (lv_at hl 0 rfl) ?_
  refine lv_ldcw (v := (858993459)) hx hb hown (hts _ k_J6_bitCount_0f7a4_2) dJ6_bitCount_0f7a4_11 ?_
  refine lv_iand hx hb dJ6_bitCount_0f7a4_14 ?_
  refine lv_iload_n hx hb dJ6_bitCount_0f7a4_15 rfl (lv_at hl 0 rfl) ?_
  refine lv_iconst (v := (2)) hx hb dJ6_bitCount_0f7a4_16 (by decide) ?_
  refine lv_iushr hx hb dJ6_bitCount_0f7a4_17 rfl ?_
  refine lv_ldcw (v := (858993459)) hx hb hown (hts _ k_J6_bitCount_0f7a4_2) dJ6_bitCount_0f7a4_18 ?_
  refine lv_iand hx hb dJ6_bitCount_0f7a4_21 ?_
  refine lv_iadd hx hb dJ6_bitCount_0f7a4_22 ?_
  refine lv_istore_n (lv' := [(0, .int (((x0 - (((x0.toUInt32 >>> ((1 : Int32).toUInt32 &&& Int32.toUInt32 31)).toInt32) &&& (1431655765 : Int32))) &&& (858993459 : Int32)) + ((((x0 - (((x0.toUInt32 >>> ((1 : Int32).toUInt32 &&& Int32.toUInt32 31)).toInt32) &&& (1431655765 : Int32))).toUInt32 >>> ((2 : Int32).toUInt32 &&& Int32.toUInt32 31)).toInt32) &&& (858993459 : Int32))))]) hx hb dJ6_bitCount_0f7a4_23 rfl hl (by decide) rfl (fun ls hl => ?_)
  refine lv_iload_n hx hb dJ6_bitCount_0f7a4_24 rfl (lv_at hl 0 rfl) ?_
  refine lv_iload_n hx hb dJ6_bitCount_0f7a4_25 rfl (lv_at hl 0 rfl) ?_
  refine lv_iconst (v := (4)) hx hb dJ6_bitCount_0f7a4_26 (by decide) ?_
  refine lv_iushr hx hb dJ6_bitCount_0f7a4_27 rfl ?_
  refine lv_iadd hx hb dJ6_bitCount_0f7a4_28 ?_
  refine lv_ldcw (v := (252645135)) hx hb hown (hts _ k_J6_bitCount_0f7a4_3) dJ6_bitCount_0f7a4_29 ?_
  refine lv_iand hx hb dJ6_bitCount_0f7a4_32 ?_
  refine lv_istore_n (lv' := [(0, .int (((((x0 - (((x0.toUInt32 >>> ((1 : Int32).toUInt32 &&& Int32.toUInt32 31)).toInt32) &&& (1431655765 : Int32))) &&& (858993459 : Int32)) + ((((x0 - (((x0.toUInt32 >>> ((1 : Int32).toUInt32 &&& Int32.toUInt32 31)).toInt32) &&& (1431655765 : Int32))).toUInt32 >>> ((2 : Int32).toUInt32 &&& Int32.toUInt32 31)).toInt32) &&& (858993459 : Int32))) + (((((x0 - (((x0.toUInt32 >>> ((1 : Int32).toUInt32 &&& Int32.toUInt32 31)).toInt32) &&& (1431655765 : Int32))) &&& (858993459 : Int32)) + ((((x0 - (((x0.toUInt32 >>> ((1 : Int32).toUInt32 &&& Int32.toUInt32 31)).toInt32) &&& (1431655765 : Int32))).toUInt32 >>> ((2 : Int32).toUInt32 &&& Int32.toUInt32 31)).toInt32) &&& (858993459 : Int32))).toUInt32 >>> ((4 : Int32).toUInt32 &&& Int32.toUInt32 31)).toInt32)) &&& (252645135 : Int32)))]) hx hb dJ6_bitCount_0f7a4_33 rfl hl (by decide) rfl (fun ls hl => ?_)
  refine lv_iload_n hx hb dJ6_bitCount_0f7a4_34 rfl (lv_at hl 0 rfl) ?_
  refine lv_iload_n hx hb dJ6_bitCount_0f7a4_35 rfl (lv_at hl 0 rfl) ?_
  refine lv_bipush (v := (8)) hx hb dJ6_bitCount_0f7a4_36 (by decide) ?_
  refine lv_iushr hx hb dJ6_bitCount_0f7a4_38 rfl ?_
  refine lv_iadd hx hb dJ6_bitCount_0f7a4_39 ?_
  refine lv_istore_n (lv' := [(0, .int ((((((x0 - (((x0.toUInt32 >>> ((1 : Int32).toUInt32 &&& Int32.toUInt32 31)).toInt32) &&& (1431655765 : Int32))) &&& (858993459 : Int32)) + ((((x0 - (((x0.toUInt32 >>> ((1 : Int32).toUInt32 &&& Int32.toUInt32 31)).toInt32) &&& (1431655765 : Int32))).toUInt32 >>> ((2 : Int32).toUInt32 &&& Int32.toUInt32 31)).toInt32) &&& (858993459 : Int32))) + (((((x0 - (((x0.toUInt32 >>> ((1 : Int32).toUInt32 &&& Int32.toUInt32 31)).toInt32) &&& (1431655765 : Int32))) &&& (858993459 : Int32)) + ((((x0 - (((x0.toUInt32 >>> ((1 : Int32).toUInt32 &&& Int32.toUInt32 31)).toInt32) &&& (1431655765 : Int32))).toUInt32 >>> ((2 : Int32).toUInt32 &&& Int32.toUInt32 31)).toInt32) &&& (858993459 : Int32))).toUInt32 >>> ((4 : Int32).toUInt32 &&& Int32.toUInt32 31)).toInt32)) &&& (252645135 : Int32)) + (((((((x0 - (((x0.toUInt32 >>> ((1 : Int32).toUInt32 &&& Int32.toUInt32 31)).toInt32) &&& (1431655765 : Int32))) &&& (858993459 : Int32)) + ((((x0 - (((x0.toUInt32 >>> ((1 : Int32).toUInt32 &&& Int32.toUInt32 31)).toInt32) &&& (1431655765 : Int32))).toUInt32 >>> ((2 : Int32).toUInt32 &&& Int32.toUInt32 31)).toInt32) &&& (858993459 : Int32))) + (((((x0 - (((x0.toUInt32 >>> ((1 : Int32).toUInt32 &&& Int32.toUInt32 31)).toInt32) &&& (1431655765 : Int32))) &&& (858993459 : Int32)) + ((((x0 - (((x0.toUInt32 >>> ((1 : Int32).toUInt32 &&& Int32.toUInt32 31)).toInt32) &&& (1431655765 : Int32))).toUInt32 >>> ((2 : Int32).toUInt32 &&& Int32.toUInt32 31)).toInt32) &&& (858993459 : Int32))).toUInt32 >>> ((4 : Int32).toUInt32 &&& Int32.toUInt32 31)).toInt32)) &&& (252645135 : Int32)).toUInt32 >>> ((8 : Int32).toUInt32 &&& Int32.toUInt32 31)).toInt32)))]) hx hb dJ6_bitCount_0f7a4_40 rfl hl (by decide) rfl (fun ls hl => ?_)
  refine lv_iload_n hx hb dJ6_bitCount_0f7a4_41 rfl (lv_at hl 0 rfl) ?_
  refine lv_iload_n hx hb dJ6_bitCount_0f7a4_42 rfl (lv_at hl 0 rfl) ?_
  refine lv_bipush (v := (16)) hx hb dJ6_bitCount_0f7a4_43 (by decide) ?_
  refine lv_iushr hx hb dJ6_bitCount_0f7a4_45 rfl ?_
  refine lv_iadd hx hb dJ6_bitCount_0f7a4_46 ?_
  refine lv_istore_n (lv' := [(0, .int (((((((x0 - (((x0.toUInt32 >>> ((1 : Int32).toUInt32 &&& Int32.toUInt32 31)).toInt32) &&& (1431655765 : Int32))) &&& (858993459 : Int32)) + ((((x0 - (((x0.toUInt32 >>> ((1 : Int32).toUInt32 &&& Int32.toUInt32 31)).toInt32) &&& (1431655765 : Int32))).toUInt32 >>> ((2 : Int32).toUInt32 &&& Int32.toUInt32 31)).toInt32) &&& (858993459 : Int32))) + (((((x0 - (((x0.toUInt32 >>> ((1 : Int32).toUInt32 &&& Int32.toUInt32 31)).toInt32) &&& (1431655765 : Int32))) &&& (858993459 : Int32)) + ((((x0 - (((x0.toUInt32 >>> ((1 : Int32).toUInt32 &&& Int32.toUInt32 31)).toInt32) &&& (1431655765 : Int32))).toUInt32 >>> ((2 : Int32).toUInt32 &&& Int32.toUInt32 31)).toInt32) &&& (858993459 : Int32))).toUInt32 >>> ((4 : Int32).toUInt32 &&& Int32.toUInt32 31)).toInt32)) &&& (252645135 : Int32)) + (((((((x0 - (((x0.toUInt32 >>> ((1 : Int32).toUInt32 &&& Int32.toUInt32 31)).toInt32) &&& (1431655765 : Int32))) &&& (858993459 : Int32)) + ((((x0 - (((x0.toUInt32 >>> ((1 : Int32).toUInt32 &&& Int32.toUInt32 31)).toInt32) &&& (1431655765 : Int32))).toUInt32 >>> ((2 : Int32).toUInt32 &&& Int32.toUInt32 31)).toInt32) &&& (858993459 : Int32))) + (((((x0 - (((x0.toUInt32 >>> ((1 : Int32).toUInt32 &&& Int32.toUInt32 31)).toInt32) &&& (1431655765 : Int32))) &&& (858993459 : Int32)) + ((((x0 - (((x0.toUInt32 >>> ((1 : Int32).toUInt32 &&& Int32.toUInt32 31)).toInt32) &&& (1431655765 : Int32))).toUInt32 >>> ((2 : Int32).toUInt32 &&& Int32.toUInt32 31)).toInt32) &&& (858993459 : Int32))).toUInt32 >>> ((4 : Int32).toUInt32 &&& Int32.toUInt32 31)).toInt32)) &&& (252645135 : Int32)).toUInt32 >>> ((8 : Int32).toUInt32 &&& Int32.toUInt32 31)).toInt32)) + ((((((((x0 - (((x0.toUInt32 >>> ((1 : Int32).toUInt32 &&& Int32.toUInt32 31)).toInt32) &&& (1431655765 : Int32))) &&& (858993459 : Int32)) + ((((x0 - (((x0.toUInt32 >>> ((1 : Int32).toUInt32 &&& Int32.toUInt32 31)).toInt32) &&& (1431655765 : Int32))).toUInt32 >>> ((2 : Int32).toUInt32 &&& Int32.toUInt32 31)).toInt32) &&& (858993459 : Int32))) + (((((x0 - (((x0.toUInt32 >>> ((1 : Int32).toUInt32 &&& Int32.toUInt32 31)).toInt32) &&& (1431655765 : Int32))) &&& (858993459 : Int32)) + ((((x0 - (((x0.toUInt32 >>> ((1 : Int32).toUInt32 &&& Int32.toUInt32 31)).toInt32) &&& (1431655765 : Int32))).toUInt32 >>> ((2 : Int32).toUInt32 &&& Int32.toUInt32 31)).toInt32) &&& (858993459 : Int32))).toUInt32 >>> ((4 : Int32).toUInt32 &&& Int32.toUInt32 31)).toInt32)) &&& (252645135 : Int32)) + (((((((x0 - (((x0.toUInt32 >>> ((1 : Int32).toUInt32 &&& Int32.toUInt32 31)).toInt32) &&& (1431655765 : Int32))) &&& (858993459 : Int32)) + ((((x0 - (((x0.toUInt32 >>> ((1 : Int32).toUInt32 &&& Int32.toUInt32 31)).toInt32) &&& (1431655765 : Int32))).toUInt32 >>> ((2 : Int32).toUInt32 &&& Int32.toUInt32 31)).toInt32) &&& (858993459 : Int32))) + (((((x0 - (((x0.toUInt32 >>> ((1 : Int32).toUInt32 &&& Int32.toUInt32 31)).toInt32) &&& (1431655765 : Int32))) &&& (858993459 : Int32)) + ((((x0 - (((x0.toUInt32 >>> ((1 : Int32).toUInt32 &&& Int32.toUInt32 31)).toInt32) &&& (1431655765 : Int32))).toUInt32 >>> ((2 : Int32).toUInt32 &&& Int32.toUInt32 31)).toInt32) &&& (858993459 : Int32))).toUInt32 >>> ((4 : Int32).toUInt32 &&& Int32.toUInt32 31)).toInt32)) &&& (252645135 : Int32)).toUInt32 >>> ((8 : Int32).toUInt32 &&& Int32.toUInt32 31)).toInt32)).toUInt32 >>> ((16 : Int32).toUInt32 &&& Int32.toUInt32 31)).toInt32)))]) hx hb dJ6_bitCount_0f7a4_47 rfl hl (by decide) rfl (fun ls hl => ?_)
  refine lv_iload_n hx hb dJ6_bitCount_0f7a4_48 rfl (lv_at hl 0 rfl) ?_
  refine lv_bipush (v := (63)) hx hb dJ6_bitCount_0f7a4_49 (by decide) ?_
  refine lv_iand hx hb dJ6_bitCount_0f7a4_51 ?_
  exact W.iret (v := (((((((x0 - (((x0.toUInt32 >>> ((1 : Int32).toUInt32 &&& Int32.toUInt32 31)).toInt32) &&& (1431655765 : Int32))) &&& (858993459 : Int32)) + ((((x0 - (((x0.toUInt32 >>> ((1 : Int32).toUInt32 &&& Int32.toUInt32 31)).toInt32) &&& (1431655765 : Int32))).toUInt32 >>> ((2 : Int32).toUInt32 &&& Int32.toUInt32 31)).toInt32) &&& (858993459 : Int32))) + (((((x0 - (((x0.toUInt32 >>> ((1 : Int32).toUInt32 &&& Int32.toUInt32 31)).toInt32) &&& (1431655765 : Int32))) &&& (858993459 : Int32)) + ((((x0 - (((x0.toUInt32 >>> ((1 : Int32).toUInt32 &&& Int32.toUInt32 31)).toInt32) &&& (1431655765 : Int32))).toUInt32 >>> ((2 : Int32).toUInt32 &&& Int32.toUInt32 31)).toInt32) &&& (858993459 : Int32))).toUInt32 >>> ((4 : Int32).toUInt32 &&& Int32.toUInt32 31)).toInt32)) &&& (252645135 : Int32)) + (((((((x0 - (((x0.toUInt32 >>> ((1 : Int32).toUInt32 &&& Int32.toUInt32 31)).toInt32) &&& (1431655765 : Int32))) &&& (858993459 : Int32)) + ((((x0 - (((x0.toUInt32 >>> ((1 : Int32).toUInt32 &&& Int32.toUInt32 31)).toInt32) &&& (1431655765 : Int32))).toUInt32 >>> ((2 : Int32).toUInt32 &&& Int32.toUInt32 31)).toInt32) &&& (858993459 : Int32))) + (((((x0 - (((x0.toUInt32 >>> ((1 : Int32).toUInt32 &&& Int32.toUInt32 31)).toInt32) &&& (1431655765 : Int32))) &&& (858993459 : Int32)) + ((((x0 - (((x0.toUInt32 >>> ((1 : Int32).toUInt32 &&& Int32.toUInt32 31)).toInt32) &&& (1431655765 : Int32))).toUInt32 >>> ((2 : Int32).toUInt32 &&& Int32.toUInt32 31)).toInt32) &&& (858993459 : Int32))).toUInt32 >>> ((4 : Int32).toUInt32 &&& Int32.toUInt32 31)).toInt32)) &&& (252645135 : Int32)).toUInt32 >>> ((8 : Int32).toUInt32 &&& Int32.toUInt32 31)).toInt32)) + ((((((((x0 - (((x0.toUInt32 >>> ((1 : Int32).toUInt32 &&& Int32.toUInt32 31)).toInt32) &&& (1431655765 : Int32))) &&& (858993459 : Int32)) + ((((x0 - (((x0.toUInt32 >>> ((1 : Int32).toUInt32 &&& Int32.toUInt32 31)).toInt32) &&& (1431655765 : Int32))).toUInt32 >>> ((2 : Int32).toUInt32 &&& Int32.toUInt32 31)).toInt32) &&& (858993459 : Int32))) + (((((x0 - (((x0.toUInt32 >>> ((1 : Int32).toUInt32 &&& Int32.toUInt32 31)).toInt32) &&& (1431655765 : Int32))) &&& (858993459 : Int32)) + ((((x0 - (((x0.toUInt32 >>> ((1 : Int32).toUInt32 &&& Int32.toUInt32 31)).toInt32) &&& (1431655765 : Int32))).toUInt32 >>> ((2 : Int32).toUInt32 &&& Int32.toUInt32 31)).toInt32) &&& (858993459 : Int32))).toUInt32 >>> ((4 : Int32).toUInt32 &&& Int32.toUInt32 31)).toInt32)) &&& (252645135 : Int32)) + (((((((x0 - (((x0.toUInt32 >>> ((1 : Int32).toUInt32 &&& Int32.toUInt32 31)).toInt32) &&& (1431655765 : Int32))) &&& (858993459 : Int32)) + ((((x0 - (((x0.toUInt32 >>> ((1 : Int32).toUInt32 &&& Int32.toUInt32 31)).toInt32) &&& (1431655765 : Int32))).toUInt32 >>> ((2 : Int32).toUInt32 &&& Int32.toUInt32 31)).toInt32) &&& (858993459 : Int32))) + (((((x0 - (((x0.toUInt32 >>> ((1 : Int32).toUInt32 &&& Int32.toUInt32 31)).toInt32) &&& (1431655765 : Int32))) &&& (858993459 : Int32)) + ((((x0 - (((x0.toUInt32 >>> ((1 : Int32).toUInt32 &&& Int32.toUInt32 31)).toInt32) &&& (1431655765 : Int32))).toUInt32 >>> ((2 : Int32).toUInt32 &&& Int32.toUInt32 31)).toInt32) &&& (858993459 : Int32))).toUInt32 >>> ((4 : Int32).toUInt32 &&& Int32.toUInt32 31)).toInt32)) &&& (252645135 : Int32)).toUInt32 >>> ((8 : Int32).toUInt32 &&& Int32.toUInt32 31)).toInt32)).toUInt32 >>> ((16 : Int32).toUInt32 &&& Int32.toUInt32 31)).toInt32)) &&& (63 : Int32)) hx hb hr (fun t ht hW => ⟨(((((((x0 - (((x0.toUInt32 >>> ((1 : Int32).toUInt32 &&& Int32.toUInt32 31)).toInt32) &&& (1431655765 : Int32))) &&& (858993459 : Int32)) + ((((x0 - (((x0.toUInt32 >>> ((1 : Int32).toUInt32 &&& Int32.toUInt32 31)).toInt32) &&& (1431655765 : Int32))).toUInt32 >>> ((2 : Int32).toUInt32 &&& Int32.toUInt32 31)).toInt32) &&& (858993459 : Int32))) + (((((x0 - (((x0.toUInt32 >>> ((1 : Int32).toUInt32 &&& Int32.toUInt32 31)).toInt32) &&& (1431655765 : Int32))) &&& (858993459 : Int32)) + ((((x0 - (((x0.toUInt32 >>> ((1 : Int32).toUInt32 &&& Int32.toUInt32 31)).toInt32) &&& (1431655765 : Int32))).toUInt32 >>> ((2 : Int32).toUInt32 &&& Int32.toUInt32 31)).toInt32) &&& (858993459 : Int32))).toUInt32 >>> ((4 : Int32).toUInt32 &&& Int32.toUInt32 31)).toInt32)) &&& (252645135 : Int32)) + (((((((x0 - (((x0.toUInt32 >>> ((1 : Int32).toUInt32 &&& Int32.toUInt32 31)).toInt32) &&& (1431655765 : Int32))) &&& (858993459 : Int32)) + ((((x0 - (((x0.toUInt32 >>> ((1 : Int32).toUInt32 &&& Int32.toUInt32 31)).toInt32) &&& (1431655765 : Int32))).toUInt32 >>> ((2 : Int32).toUInt32 &&& Int32.toUInt32 31)).toInt32) &&& (858993459 : Int32))) + (((((x0 - (((x0.toUInt32 >>> ((1 : Int32).toUInt32 &&& Int32.toUInt32 31)).toInt32) &&& (1431655765 : Int32))) &&& (858993459 : Int32)) + ((((x0 - (((x0.toUInt32 >>> ((1 : Int32).toUInt32 &&& Int32.toUInt32 31)).toInt32) &&& (1431655765 : Int32))).toUInt32 >>> ((2 : Int32).toUInt32 &&& Int32.toUInt32 31)).toInt32) &&& (858993459 : Int32))).toUInt32 >>> ((4 : Int32).toUInt32 &&& Int32.toUInt32 31)).toInt32)) &&& (252645135 : Int32)).toUInt32 >>> ((8 : Int32).toUInt32 &&& Int32.toUInt32 31)).toInt32)) + ((((((((x0 - (((x0.toUInt32 >>> ((1 : Int32).toUInt32 &&& Int32.toUInt32 31)).toInt32) &&& (1431655765 : Int32))) &&& (858993459 : Int32)) + ((((x0 - (((x0.toUInt32 >>> ((1 : Int32).toUInt32 &&& Int32.toUInt32 31)).toInt32) &&& (1431655765 : Int32))).toUInt32 >>> ((2 : Int32).toUInt32 &&& Int32.toUInt32 31)).toInt32) &&& (858993459 : Int32))) + (((((x0 - (((x0.toUInt32 >>> ((1 : Int32).toUInt32 &&& Int32.toUInt32 31)).toInt32) &&& (1431655765 : Int32))) &&& (858993459 : Int32)) + ((((x0 - (((x0.toUInt32 >>> ((1 : Int32).toUInt32 &&& Int32.toUInt32 31)).toInt32) &&& (1431655765 : Int32))).toUInt32 >>> ((2 : Int32).toUInt32 &&& Int32.toUInt32 31)).toInt32) &&& (858993459 : Int32))).toUInt32 >>> ((4 : Int32).toUInt32 &&& Int32.toUInt32 31)).toInt32)) &&& (252645135 : Int32)) + (((((((x0 - (((x0.toUInt32 >>> ((1 : Int32).toUInt32 &&& Int32.toUInt32 31)).toInt32) &&& (1431655765 : Int32))) &&& (858993459 : Int32)) + ((((x0 - (((x0.toUInt32 >>> ((1 : Int32).toUInt32 &&& Int32.toUInt32 31)).toInt32) &&& (1431655765 : Int32))).toUInt32 >>> ((2 : Int32).toUInt32 &&& Int32.toUInt32 31)).toInt32) &&& (858993459 : Int32))) + (((((x0 - (((x0.toUInt32 >>> ((1 : Int32).toUInt32 &&& Int32.toUInt32 31)).toInt32) &&& (1431655765 : Int32))) &&& (858993459 : Int32)) + ((((x0 - (((x0.toUInt32 >>> ((1 : Int32).toUInt32 &&& Int32.toUInt32 31)).toInt32) &&& (1431655765 : Int32))).toUInt32 >>> ((2 : Int32).toUInt32 &&& Int32.toUInt32 31)).toInt32) &&& (858993459 : Int32))).toUInt32 >>> ((4 : Int32).toUInt32 &&& Int32.toUInt32 31)).toInt32)) &&& (252645135 : Int32)).toUInt32 >>> ((8 : Int32).toUInt32 &&& Int32.toUInt32 31)).toInt32)).toUInt32 >>> ((16 : Int32).toUInt32 &&& Int32.toUInt32 31)).toInt32)) &&& (63 : Int32), rfl, h, ht⟩) (fun q hq => absurd hq List.not_mem_nil) dJ6_bitCount_0f7a4_52

-- IronedQuarrels.bitsBelow(I)I
def wp_X7_bitsBelow (i : Int32) (post : Int32 → Prop) : Prop :=
  wp_X7_bit i (fun r1 => post (r1 - (1 : Int32)))
def rm_X7_bitsBelow : Room := { frames := 1, cells := 0, slots := 0, locals := 20 }
set_option maxHeartbeats 4000000 in
set_option maxRecDepth 100000 in
theorem c_X7_bitsBelow (l : Launch) (D : va_G) (ca : Nat → ClassId)   (i : Int32) (post : Int32 → Prop) (h : wp_X7_bitsBelow i post) : Met l yX7_bitsBelow wsX7_bitsBelow rm_X7_bitsBelow (PcX D ca [.int i] ([])) (rdI post) 0 0 (fun _ => False) := by
  refine Met.ofW (cc := cX7_bitsBelow) (maxL := 1) (ret := (some .int)) (by decide) rfl ?_
  intro zp ze zs zm za zb zt zc z1 B hml hv
  obtain ⟨rfl, hP, hK⟩ := hv
  have hx := B.exec
  have hb := B.bytes
  have hr := B.returns
  have hts := atoms_spec (ws := wsX7_bitsBelow) B.pre
  have hown : zs.vm.findClass RX7 = some zm.cls := findClass_of_methodNamed B.named
  have hlocks := B.notSynchronized
  have hl := lv_entry ([.int i]) (n := 1) (Nat.le_of_ble_eq_true rfl)
  rw [lg_entry_eq]
  generalize (lg_sl ([.int i]) ++ List.replicate (1 - (lg_sl ([.int i])).length) Slot.unset).toArray = ls at hl ⊢
  replace hl : lv_has ls 1 [(0, .int i)] := hl
  show W zp l ze rm_X7_bitsBelow zs zm ([.int i] : List Value).toArray zb zt zc zs.heap [] 0 0 (MQ zb (rdI post) ([.int i] : List Value).toArray zs 0 0 (fun _ => False)) (F0 zm 0 ls [])
  unfold wp_X7_bitsBelow at h
  refine lv_iload_n hx hb dX7_bitsBelow_0 rfl (lv_at hl 0 rfl) ?_
  refine rd_calli (va_runS (As := [.int i]) (rest := []) ⟨hx, hb, hml, hown, hts⟩ (c_X7_bit l D ca   i _ h) (va_cwS 1 hts gX7_bitsBelow_X7_bit rfl rfl rfl (by decide +kernel) ⟨Nat.le_of_ble_eq_true rfl, Nat.le_of_ble_eq_true rfl⟩) (PcX.preS hK (fun k q h => by simp at h)) rfl rfl hl.1 rfl (lv_room (Nat.le_of_ble_eq_true rfl)) dX7_bitsBelow_1 ⟨Nat.le_of_ble_eq_true rfl, Nat.le_of_ble_eq_true rfl⟩) (fun r1 h => ?_)
  try dsimp only at h
  refine lv_iconst (v := (1)) hx hb dX7_bitsBelow_4 (by decide) ?_
  refine lv_isub hx hb dX7_bitsBelow_5 ?_
  exact W.iret (v := r1 - (1 : Int32)) hx hb hr (fun t ht hW => ⟨r1 - (1 : Int32), rfl, h, ht⟩) (fun q hq => absurd hq List.not_mem_nil) dX7_bitsBelow_6

-- IronedQuarrels.numberAt(II)I
def wb_X7_numberAt_4 (bits : Int32) (place : Int32) (post : Int32 → Prop) (K4 : (Int32) → (Int32) → Prop) (x2 : Int32) (x3 : Int32) : Prop :=
  ((12 : Int32) ≤ x3 → (post (-9 : Int32))) ∧ (¬ (12 : Int32) ≤ x3 → (wp_X7_hasBit bits x3 (fun r1 => (r1 = 0 → (K4 x2 (x3 + 1))) ∧ (¬ r1 = 0 → ((¬ x2 = place → (K4 (x2 + 1) (x3 + 1))) ∧ (x2 = place → (post x3)))))))
def wl_X7_numberAt_4 (bits : Int32) (place : Int32) (post : Int32 → Prop) : Nat → (Int32) → (Int32) → Prop
  | 0 => fun _ _ => False
  | zn + 1 => wb_X7_numberAt_4 bits place post (wl_X7_numberAt_4 bits place post zn)
def wp_X7_numberAt (bits : Int32) (place : Int32) (post : Int32 → Prop) : Prop :=
  ∃ zn, wl_X7_numberAt_4 bits place post zn (0 : Int32) (0 : Int32)
def rm_X7_numberAt : Room := { frames := 1, cells := 0, slots := 0, locals := 21 }
set_option maxHeartbeats 4000000 in
set_option maxRecDepth 100000 in
theorem c_X7_numberAt (l : Launch) (D : va_G) (ca : Nat → ClassId)   (bits : Int32) (place : Int32) (post : Int32 → Prop) (h : wp_X7_numberAt bits place post) : Met l yX7_numberAt wsX7_numberAt rm_X7_numberAt (PcX D ca [.int bits, .int place] ([])) (rdI post) 0 0 (fun _ => False) := by
  refine Met.ofW (cc := cX7_numberAt) (maxL := 4) (ret := (some .int)) (by decide) rfl ?_
  intro zp ze zs zm za zb zt zc z1 B hml hv
  obtain ⟨rfl, hP, hK⟩ := hv
  have hx := B.exec
  have hb := B.bytes
  have hr := B.returns
  have hts := atoms_spec (ws := wsX7_numberAt) B.pre
  have hown : zs.vm.findClass RX7 = some zm.cls := findClass_of_methodNamed B.named
  have hlocks := B.notSynchronized
  have hl := lv_entry ([.int bits, .int place]) (n := 4) (Nat.le_of_ble_eq_true rfl)
  rw [lg_entry_eq]
  generalize (lg_sl ([.int bits, .int place]) ++ List.replicate (4 - (lg_sl ([.int bits, .int place])).length) Slot.unset).toArray = ls at hl ⊢
  replace hl : lv_has ls 4 [(0, .int bits), (1, .int place)] := hl
  show W zp l ze rm_X7_numberAt zs zm ([.int bits, .int place] : List Value).toArray zb zt zc zs.heap [] 0 0 (MQ zb (rdI post) ([.int bits, .int place] : List Value).toArray zs 0 0 (fun _ => False)) (F0 zm 0 ls [])
  have w_4 : ∀ (zn : Nat) (x2 : Int32) (x3 : Int32), wl_X7_numberAt_4 bits place post zn x2 x3 → ∀ ls : Array Slot, lv_has ls 4 [(0, .int bits), (1, .int place), (2, .int x2), (3, .int x3)] → W zp l ze rm_X7_numberAt zs zm ([.int bits, .int place] : List Value).toArray zb zt zc zs.heap [] 0 0 (MQ zb (rdI post) ([.int bits, .int place] : List Value).toArray zs 0 0 (fun _ => False)) (F0 zm 4 ls []) := by
    intro zn
    induction zn with
    | zero => intro x2 x3 h; exact h.elim
    | succ zn ih4 =>
      intro x2 x3 h ls hl
      replace h : wb_X7_numberAt_4 bits place post (wl_X7_numberAt_4 bits place post zn) x2 x3 := h
      unfold wb_X7_numberAt_4 at h
      refine lv_iload_n hx hb dX7_numberAt_4 rfl (lv_at hl 3 rfl) ?_
      refine lv_bipush (v := (12)) hx hb dX7_numberAt_5 (by decide) ?_
      refine lv_icmp_ge (tgt := 34) hx hb dX7_numberAt_7 (by decide) (fun hc => ?_) (fun hc => ?_)
      · have h := h.1 hc
        refine lv_bipush (v := (-9)) hx hb dX7_numberAt_34 (by decide) ?_
        exact W.iret (v := (-9 : Int32)) hx hb hr (fun t ht hW => ⟨(-9 : Int32), rfl, h, ht⟩) (fun q hq => absurd hq List.not_mem_nil) dX7_numberAt_36
      · have h := h.2 hc
        refine lv_iload_n hx hb dX7_numberAt_10 rfl (lv_at hl 0 rfl) ?_
        refine lv_iload_n hx hb dX7_numberAt_11 rfl (lv_at hl 3 rfl) ?_
        refine rd_callz (va_runS (As := [.int bits, .int x3]) (rest := []) ⟨hx, hb, hml, hown, hts⟩ (c_X7_hasBit l D ca   bits x3 _ h) (va_cwS 2 hts gX7_numberAt_X7_hasBit rfl rfl rfl (by decide +kernel) ⟨Nat.le_of_ble_eq_true rfl, Nat.le_of_ble_eq_true rfl⟩) (PcX.preS hK (fun k q h => by simp at h)) rfl rfl hl.1 rfl (lv_room (Nat.le_of_ble_eq_true rfl)) dX7_numberAt_12 ⟨Nat.le_of_ble_eq_true rfl, Nat.le_of_ble_eq_true rfl⟩) (fun r1 h hz_r1 => ?_)
        try dsimp only at h
        refine lv_if_eq (tgt := 28) hx hb dX7_numberAt_15 (by decide) (fun hc => ?_) (fun hc => ?_)
        · have h := h.1 hc
          refine lv_iinc (v := x3 + 1) (lv' := [(3, .int (x3 + 1)), (0, .int bits), (1, .int place), (2, .int x2)]) hx hb dX7_numberAt_28 hl (k := 3) rfl rfl (by decide) rfl (fun ls hl => ?_)
          refine lv_goto (tgt := 4) hx hb dX7_numberAt_31 (by decide) ?_
          exact ih4 x2 (x3 + 1) h ls (lv_sub hl [1, 2, 3, 0] rfl)
        · have h := h.2 hc
          refine lv_iload_n hx hb dX7_numberAt_18 rfl (lv_at hl 2 rfl) ?_
          refine lv_iload_n hx hb dX7_numberAt_19 rfl (lv_at hl 1 rfl) ?_
          refine lv_icmp_ne (tgt := 25) hx hb dX7_numberAt_20 (by decide) (fun hc => ?_) (fun hc => ?_)
          · have h := h.1 hc
            refine lv_iinc (v := x2 + 1) (lv' := [(2, .int (x2 + 1)), (0, .int bits), (1, .int place), (3, .int x3)]) hx hb dX7_numberAt_25 hl (k := 2) rfl rfl (by decide) rfl (fun ls hl => ?_)
            refine lv_iinc (v := x3 + 1) (lv' := [(3, .int (x3 + 1)), (2, .int (x2 + 1)), (0, .int bits), (1, .int place)]) hx hb dX7_numberAt_28 hl (k := 3) rfl rfl (by decide) rfl (fun ls hl => ?_)
            refine lv_goto (tgt := 4) hx hb dX7_numberAt_31 (by decide) ?_
            exact ih4 (x2 + 1) (x3 + 1) h ls (lv_sub hl [2, 3, 1, 0] rfl)
          · have h := h.2 hc
            refine lv_iload_n hx hb dX7_numberAt_23 rfl (lv_at hl 3 rfl) ?_
            exact W.iret (v := x3) hx hb hr (fun t ht hW => ⟨x3, rfl, h, ht⟩) (fun q hq => absurd hq List.not_mem_nil) dX7_numberAt_24
  unfold wp_X7_numberAt at h
  refine lv_iconst (v := (0)) hx hb dX7_numberAt_0 (by decide) ?_
  refine lv_istore_n (lv' := [(2, .int (0 : Int32)), (0, .int bits), (1, .int place)]) hx hb dX7_numberAt_1 rfl hl (by decide) rfl (fun ls hl => ?_)
  refine lv_iconst (v := (0)) hx hb dX7_numberAt_2 (by decide) ?_
  refine lv_istore_n (lv' := [(3, .int (0 : Int32)), (2, .int (0 : Int32)), (0, .int bits), (1, .int place)]) hx hb dX7_numberAt_3 rfl hl (by decide) rfl (fun ls hl => ?_)
  obtain ⟨zn, h⟩ := h
  exact w_4  zn (0 : Int32) (0 : Int32) h ls (lv_sub hl [2, 3, 1, 0] rfl)

-- java/util/Arrays.fill([II)V
def wb_J7_fill_53178_5 (x0_n : Nat) (x1 : Int32) (post : (Nat → Int32) → Prop) (K5 : (Nat → Int32) → (Int32) → (Int32) → Prop) (x0_data : Nat → Int32) (x2 : Int32) (x3 : Int32) : Prop :=
  (x3 ≤ x2 → (post x0_data)) ∧ (¬ x3 ≤ x2 → (vp_in x2 x0_n ∧ K5 (upd x0_data (x2.toNatClampNeg) x1) (x2 + 1) x3))
def wl_J7_fill_53178_5 (x0_n : Nat) (x1 : Int32) (post : (Nat → Int32) → Prop) : Nat → (Nat → Int32) → (Int32) → (Int32) → Prop
  | 0 => fun _ _ _ => False
  | zn + 1 => wb_J7_fill_53178_5 x0_n x1 post (wl_J7_fill_53178_5 x0_n x1 post zn)
def wp_J7_fill_53178 (x0_n : Nat) (x0_data : Nat → Int32) (x1 : Int32) (post : (Nat → Int32) → Prop) : Prop :=
  ∃ zn, wl_J7_fill_53178_5 x0_n x1 post zn x0_data (0 : Int32) (nI x0_n)
def rm_J7_fill_53178 : Room := { frames := 0, cells := 0, slots := 0, locals := 0 }
set_option maxHeartbeats 4000000 in
set_option maxRecDepth 100000 in
theorem c_J7_fill_53178 (l : Launch) (D : va_G) (ca : Nat → ClassId) (a_x0 : Nat) (x0_n : Nat) (x0_data : Nat → Int32) (x1 : Int32) (post : (Nat → Int32) → Prop) (hd : va_D (fun _ => True) (W_AI ca a_x0 x0_n x0_data)) (h : wp_J7_fill_53178 x0_n x0_data x1 post) : Met l yJ7_fill_53178 wsJ7_fill_53178 rm_J7_fill_53178 (PcX D ca [.ref a_x0, .int x1] (W_AI ca a_x0 x0_n x0_data)) (wrV (S := (Nat → Int32)) D (W_AI ca a_x0 x0_n x0_data) (fun u => W_AI ca a_x0 x0_n u) (fun u => post u)) 0 0 (adr (W_AI ca a_x0 x0_n x0_data)) := by
  refine Met.ofW (cc := cJ7_fill_53178) (maxL := 4) (ret := none) (by decide) rfl ?_
  intro zp ze zs zm za zb zt zc z1 B hml hv
  obtain ⟨rfl, hP, hK⟩ := hv
  have hx := B.exec
  have hb := B.bytes
  have hr := B.returns
  have hts := atoms_spec (ws := wsJ7_fill_53178) B.pre
  have hown : zs.vm.findClass RJ7 = some zm.cls := findClass_of_methodNamed B.named
  have hlocks := B.notSynchronized
  have hD : va_D (adr (W_AI ca a_x0 x0_n x0_data)) (W_AI ca a_x0 x0_n x0_data) := hd.adr
  have hS : va_S (adr (W_AI ca a_x0 x0_n x0_data)) zs.heap zs.heap [] := va_S.rf
  have hl := lv_entry ([.ref a_x0, .int x1]) (n := 4) (Nat.le_of_ble_eq_true rfl)
  rw [lg_entry_eq]
  generalize (lg_sl ([.ref a_x0, .int x1]) ++ List.replicate (4 - (lg_sl ([.ref a_x0, .int x1])).length) Slot.unset).toArray = ls at hl ⊢
  replace hl : lv_has ls 4 [(0, .ref a_x0), (1, .int x1)] := hl
  show W zp l ze rm_J7_fill_53178 zs zm ([.ref a_x0, .int x1] : List Value).toArray zb zt zc zs.heap [] 0 0 (MQ zb (wrV (S := (Nat → Int32)) D (W_AI ca a_x0 x0_n x0_data) (fun u => W_AI ca a_x0 x0_n u) (fun u => post u)) ([.ref a_x0, .int x1] : List Value).toArray zs 0 0 (adr (W_AI ca a_x0 x0_n x0_data))) (F0 zm 0 ls [])
  have w_5 : ∀ (zn : Nat) (x0_data : Nat → Int32) (x2 : Int32) (x3 : Int32), wl_J7_fill_53178_5 x0_n x1 post zn x0_data x2 x3 → ∀ (H : Heap) (locs : List Loc), va_P D vwCl (W_AI ca a_x0 x0_n x0_data) H → va_D (adr (W_AI ca a_x0 x0_n x0_data)) (W_AI ca a_x0 x0_n x0_data) → va_S (adr (W_AI ca a_x0 x0_n x0_data)) zs.heap H locs → ∀ ls : Array Slot, lv_has ls 4 [(0, .ref a_x0), (1, .int x1), (2, .int x2), (3, .int x3)] → W zp l ze rm_J7_fill_53178 zs zm ([.ref a_x0, .int x1] : List Value).toArray zb zt zc H locs 0 0 (MQ zb (wrV (S := (Nat → Int32)) D (W_AI ca a_x0 x0_n x0_data) (fun u => W_AI ca a_x0 x0_n u) (fun u => post u)) ([.ref a_x0, .int x1] : List Value).toArray zs 0 0 (adr (W_AI ca a_x0 x0_n x0_data))) (F0 zm 5 ls []) := by
    intro zn
    induction zn with
    | zero => intro x0_data x2 x3 h; exact h.elim
    | succ zn ih5 =>
      intro x0_data x2 x3 h H locs hP hD hS ls hl
      replace h : wb_J7_fill_53178_5 x0_n x1 post (wl_J7_fill_53178_5 x0_n x1 post zn) x0_data x2 x3 := h
      unfold wb_J7_fill_53178_5 at h
      refine lv_iload_n hx hb dJ7_fill_53178_5 rfl (lv_at hl 2 rfl) ?_
      refine lv_iload_n hx hb dJ7_fill_53178_6 rfl (lv_at hl 3 rfl) ?_
      refine lv_icmp_ge (tgt := 20) hx hb dJ7_fill_53178_7 (by decide) (fun hc => ?_) (fun hc => ?_)
      · have h := h.1 hc
        exact W.vret hx hb hr (fun t ht hW => ⟨⟨x0_data, rfl, h, by rw [ht]; exact hP⟩, hS.F ht⟩) hS.2.2 dJ7_fill_53178_20
      · have h := h.2 hc
        refine lv_aload_n hx hb dJ7_fill_53178_10 rfl (lv_at hl 0 rfl) ?_
        refine lv_iload_n hx hb dJ7_fill_53178_11 rfl (lv_at hl 2 rfl) ?_
        refine lv_iload_n hx hb dJ7_fill_53178_12 rfl (lv_at hl 1 rfl) ?_
        obtain ⟨hi, h⟩ := h
        refine x_iast (ws' := W_AI ca a_x0 x0_n (upd x0_data (x2.toNatClampNeg) x1)) hx hb hK hP hD hS 0 rfl hi (k := (x2.toNatClampNeg)) rfl rfl dJ7_fill_53178_13 (fun H locs hP hD hS => ?_)
        refine lv_iinc (v := x2 + 1) (lv' := [(2, .int (x2 + 1)), (0, .ref a_x0), (1, .int x1), (3, .int x3)]) hx hb dJ7_fill_53178_14 hl (k := 2) rfl rfl (by decide) rfl (fun ls hl => ?_)
        refine lv_goto (tgt := 5) hx hb dJ7_fill_53178_17 (by decide) ?_
        exact ih5 (upd x0_data (x2.toNatClampNeg) x1) (x2 + 1) x3 h _ _ hP hD hS ls (lv_sub hl [1, 2, 0, 3] rfl)
  unfold wp_J7_fill_53178 at h
  refine lv_iconst (v := (0)) hx hb dJ7_fill_53178_0 (by decide) ?_
  refine lv_istore_n (lv' := [(2, .int (0 : Int32)), (0, .ref a_x0), (1, .int x1)]) hx hb dJ7_fill_53178_1 rfl hl (by decide) rfl (fun ls hl => ?_)
  refine lv_aload_n hx hb dJ7_fill_53178_2 rfl (lv_at hl 1 rfl) ?_
  refine x_alen (v := nI x0_n) hx hb hK hP 0 rfl rfl dJ7_fill_53178_3 ?_
  refine lv_istore_n (lv' := [(3, .int (nI x0_n)), (2, .int (0 : Int32)), (0, .ref a_x0), (1, .int x1)]) hx hb dJ7_fill_53178_4 rfl hl (by decide) rfl (fun ls hl => ?_)
  obtain ⟨zn, h⟩ := h
  exact w_5  zn x0_data (0 : Int32) (nI x0_n) h _ _ hP hD hS ls (lv_sub hl [2, 3, 1, 0] rfl)
