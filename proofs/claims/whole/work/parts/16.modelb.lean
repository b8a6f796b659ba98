-- IronedQuarrelsModel.bits(I)I
def wb_X8_bits_4 (post : Int32 → Prop) (K4 : (Int32) → (Int32) → Prop) (x1 : Int32) (x2 : Int32) : Prop :=
  (x2 = 0 → (post x1)) ∧ (¬ x2 = 0 → (K4 (x1 + 1) (x2 &&& (x2 - (1 : Int32)))))
def wl_X8_bits_4 (post : Int32 → Prop) : Nat → (Int32) → (Int32) → Prop
  | 0 => fun _ _ => False
  | zn + 1 => wb_X8_bits_4 post (wl_X8_bits_4 post zn)
def wp_X8_bits (set : Int32) (post : Int32 → Prop) : Prop :=
  ∃ zn, wl_X8_bits_4 post zn (0 : Int32) set
def rm_X8_bits : Room := { frames := 0, cells := 0, slots := 0, locals := 0 }
set_option maxHeartbeats 4000000 in
set_option maxRecDepth 100000 in
theorem c_X8_bits (l : Launch) (D : va_G) (ca : Nat → ClassId)   (set : Int32) (post : Int32 → Prop) (h : wp_X8_bits set post) : Met l yX8_bits wsX8_bits rm_X8_bits (PcX D ca [.int set] ([])) (rdI post) 0 0 (fun _ => False) := by
  refine Met.ofW (cc := cX8_bits) (maxL := 3) (ret := (some .int)) (by decide) rfl ?_
  intro zp ze zs zm za zb zt zc z1 B hml hv
  obtain ⟨rfl, hP, hK⟩ := hv
  have hx := B.exec
  have hb := B.bytes
  have hr := B.returns
  have hts := atoms_spec (ws := wsX8_bits) B.pre
  have hown : zs.vm.findClass RX8 = some zm.cls := findClass_of_methodNamed B.named
  have hlocks := B.notSynchronized
  have hl := lv_entry ([.int set]) (n := 3) (Nat.le_of_ble_eq_true rfl)
  rw [lg_entry_eq]
  generalize (lg_sl ([.int set]) ++ List.replicate (3 - (lg_sl ([.int set])).length) Slot.unset).toArray = ls at hl ⊢
  replace hl : lv_has ls 3 [(0, .int set)] := hl
  show W zp l ze rm_X8_bits zs zm ([.int set] : List Value).toArray zb zt zc zs.heap [] 0 0 (MQ zb (rdI post) ([.int set] : List Value).toArray zs 0 0 (fun _ => False)) (F0 zm 0 ls [])
  have w_4 : ∀ (zn : Nat) (x1 : Int32) (x2 : Int32), wl_X8_bits_4 post zn x1 x2 → ∀ ls : Array Slot, lv_has ls 3 [(1, .int x1), (2, .int x2)] → W zp l ze rm_X8_bits zs zm ([.int set] : List Value).toArray zb zt zc zs.heap [] 0 0 (MQ zb (rdI post) ([.int set] : List Value).toArray zs 0 0 (fun _ => False)) (F0 zm 4 ls []) := by
    intro zn
    induction zn with
    | zero => intro x1 x2 h; exact h.elim
    | succ zn ih4 =>
      intro x1 x2 h ls hl
      replace h : wb_X8_bits_4 post (wl_X8_bits_4 post zn) x1 x2 := h
      unfold wb_X8_bits_4 at h
      refine lv_iload_n hx hb dX8_bits_4 rfl (lv_at hl 1 rfl) ?_
      refine lv_if_eq (tgt := 20) hx hb dX8_bits_5 (by decide) (fun hc => ?_) (fun hc => ?_)
      · have h := h.1 hc
        refine lv_iload_n hx hb dX8_bits_20 rfl (lv_at hl 0 rfl) ?_
        exact W.iret (v := x1) hx hb hr (fun zt ht hW => ⟨x1, rfl, h, ht⟩) (fun zq hq => absurd hq List.not_mem_nil) dX8_bits_21
      · have h := h.2 hc
        refine lv_iinc (v := x1 + 1) (lv' := [(1, .int (x1 + 1)), (2, .int x2)]) hx hb dX8_bits_8 hl (k := 0) rfl rfl (by decide) rfl (fun ls hl => ?_)
        refine lv_iload_n hx hb dX8_bits_11 rfl (lv_at hl 1 rfl) ?_
        refine lv_iload_n hx hb dX8_bits_12 rfl (lv_at hl 1 rfl) ?_
        refine lv_iconst (v := (1)) hx hb dX8_bits_13 (by decide) ?_
        refine lv_isub hx hb dX8_bits_14 ?_
        refine lv_iand hx hb dX8_bits_15 ?_
        refine lv_istore_n (lv' := [(2, .int (x2 &&& (x2 - (1 : Int32)))), (1, .int (x1 + 1))]) hx hb dX8_bits_16 rfl hl (by decide) rfl (fun ls hl => ?_)
        refine lv_goto (tgt := 4) hx hb dX8_bits_17 (by decide) ?_
        exact ih4 (x1 + 1) (x2 &&& (x2 - (1 : Int32))) h ls (lv_sub hl [1, 0] rfl)
  unfold wp_X8_bits at h
  refine lv_iconst (v := (0)) hx hb dX8_bits_0 (by decide) ?_
  refine lv_istore_n (lv' := [(1, .int (0 : Int32)), (0, .int set)]) hx hb dX8_bits_1 rfl hl (by decide) rfl (fun ls hl => ?_)
  refine lv_iload_n hx hb dX8_bits_2 rfl (lv_at hl 1 rfl) ?_
  refine lv_istore_n (lv' := [(2, .int set), (1, .int (0 : Int32)), (0, .int set)]) hx hb dX8_bits_3 rfl hl (by decide) rfl (fun ls hl => ?_)
  obtain ⟨zn, h⟩ := h
  exact w_4  zn (0 : Int32) set h ls (lv_sub hl [1, 0] rfl)

-- IronedQuarrelsModel.isBetween(III)Z
def wb_X8_isBetween_26 (now : Nat → Int32) (i : Int32) (p : Int32) (q : Int32) (post : Int32 → Prop)  : Prop :=
  vp_in ((15 : Int32) + i) 115 ∧ (¬ (now ((15 : Int32) + i).toNatClampNeg) = q → (post (0 : Int32))) ∧ ((now ((15 : Int32) + i).toNatClampNeg) = q → (vp_in ((27 : Int32) + i) 115 ∧ (¬ (now ((27 : Int32) + i).toNatClampNeg) = p → (post (0 : Int32))) ∧ ((now ((27 : Int32) + i).toNatClampNeg) = p → (post (1 : Int32)))))
def wp_X8_isBetween (now : Nat → Int32) (i : Int32) (p : Int32) (q : Int32) (post : Int32 → Prop) : Prop :=
  vp_in ((15 : Int32) + i) 115 ∧ (¬ (now ((15 : Int32) + i).toNatClampNeg) = p → (wb_X8_isBetween_26 now i p q post)) ∧ ((now ((15 : Int32) + i).toNatClampNeg) = p → (vp_in ((27 : Int32) + i) 115 ∧ ((now ((27 : Int32) + i).toNatClampNeg) = q → (post (1 : Int32))) ∧ (¬ (now ((27 : Int32) + i).toNatClampNeg) = q → (wb_X8_isBetween_26 now i p q post))))
def rm_X8_isBetween : Room := { frames := 0, cells := 0, slots := 0, locals := 0 }
theorem k_X8_isBetween_1 : Cond.fieldLink RX8 22 "IronedQuarrelsModel" "now" "[I" ∈ wsX8_isBetween := List.mem_of_getElem? (i := 1) (by decide +kernel)
theorem hi_X8_isBetween_X8 : ∀ w ∈ wsX80, w ∈ wsX8_isBetween := fun w h => List.mem_cons_of_mem _ (List.mem_append_right _ h)
set_option maxHeartbeats 4000000 in
set_option maxRecDepth 100000 in
theorem c_X8_isBetween (l : Launch) (D : va_G) (ca : Nat → ClassId) (a : Nat → Nat) (rowSizes : Nat → Int32) (rows : Nat → Int32) (textSizes : Nat → Int32) (texts : Nat → Int32) (now : Nat → Int32) (keeps : Nat → Int32) (kept : Nat → Int32) (asked : Int32) (upper : Int64) (lower : Int64) (finding : Int32) (findings : Nat → Int32) (read : Nat → Int32) (at_ : Int32) (costs : Nat → Int32) (ways : Nat → Int64) (reach : Nat → Int32) (i : Int32) (p : Int32) (q : Int32) (post : Int32 → Prop) (h : wp_X8_isBetween now i p q post) : Met l yX8_isBetween wsX8_isBetween rm_X8_isBetween (PcX D ca [.ref (a 0), .int i, .int p, .int q] (W_X8 ca a rowSizes rows textSizes texts now keeps kept asked upper lower finding findings read at_ costs ways reach)) (rdZ post) 0 0 (fun _ => False) := by
  refine Met.ofW (cc := cX8_isBetween) (maxL := 4) (ret := (some .boolean)) (by decide) rfl ?_
  intro zp ze zs zm za zb zt zc z1 B hml hv
  obtain ⟨rfl, hP, hK⟩ := hv
  have hx := B.exec
  have hb := B.bytes
  have hr := B.returns
  have hts := atoms_spec (ws := wsX8_isBetween) B.pre
  have hown : zs.vm.findClass RX8 = some zm.cls := findClass_of_methodNamed B.named
  have hlocks := B.notSynchronized
  have hl := lv_entry ([.ref (a 0), .int i, .int p, .int q]) (n := 4) (Nat.le_of_ble_eq_true rfl)
  rw [lg_entry_eq]
  generalize (lg_sl ([.ref (a 0), .int i, .int p, .int q]) ++ List.replicate (4 - (lg_sl ([.ref (a 0), .int i, .int p, .int q])).length) Slot.unset).toArray = ls at hl ⊢
  replace hl : lv_has ls 4 [(0, .ref (a 0)), (1, .int i), (2, .int p), (3, .int q)] := hl
  show W zp l ze rm_X8_isBetween zs zm ([.ref (a 0), .int i, .int p, .int q] : List Value).toArray zb zt zc zs.heap [] 0 0 (MQ zb (rdZ post) ([.ref (a 0), .int i, .int p, .int q] : List Value).toArray zs 0 0 (fun _ => False)) (F0 zm 0 ls [])
  have w_26 : ∀ (_ : Unit), wb_X8_isBetween_26 now i p q post  → ∀ ls : Array Slot, lv_has ls 4 [(0, .ref (a 0)), (1, .int i), (2, .int p), (3, .int q)] → W zp l ze rm_X8_isBetween zs zm ([.ref (a 0), .int i, .int p, .int q] : List Value).toArray zb zt zc zs.heap [] 0 0 (MQ zb (rdZ post) ([.ref (a 0), .int i, .int p, .int q] : List Value).toArray zs 0 0 (fun _ => False)) (F0 zm 26 ls []) := by
    intro _ h ls hl
    unfold wb_X8_isBetween_26 at h
    refine lv_aload_n hx hb dX8_isBetween_26 rfl (lv_at hl 0 rfl) ?_
    refine va_get (D := D) (ci := 7) (v := .ref (a 5)) (C := RX8) (T := TX8) (N := 17) hx hb hts hi_X8_isBetween_X8 hown hK.1 hP 0 rfl rfl 4 (by decide) (hts _ k_X8_isBetween_1) (fun _ h9 => h9) rfl dX8_isBetween_27 ?_
    refine lv_bipush (v := (15)) hx hb dX8_isBetween_30 (by decide) ?_
    refine lv_iload_n hx hb dX8_isBetween_32 rfl (lv_at hl 1 rfl) ?_
    refine lv_iadd hx hb dX8_isBetween_33 ?_
    obtain ⟨hi, h⟩ := h
    refine x_iald (v := now ((15 : Int32) + i).toNatClampNeg) hx hb hK hP 5 rfl hi rfl dX8_isBetween_34 ?_
    refine lv_iload_n hx hb dX8_isBetween_35 rfl (lv_at hl 3 rfl) ?_
    refine lv_icmp_ne (tgt := 56) hx hb dX8_isBetween_36 (by decide) (fun hc => ?_) (fun hc => ?_)
    · have h := h.1 hc
      refine lv_iconst (v := (0)) hx hb dX8_isBetween_56 (by decide) ?_
      exact W.zret (v := (0 : Int32)) hx hb hr nar0 (fun zt ht hW => ⟨(0 : Int32), rfl, ⟨h, nar0⟩, ht⟩) (fun zq hq => absurd hq List.not_mem_nil) dX8_isBetween_57
    · have h := h.2 hc
      refine lv_aload_n hx hb dX8_isBetween_39 rfl (lv_at hl 0 rfl) ?_
      refine va_get (D := D) (ci := 7) (v := .ref (a 5)) (C := RX8) (T := TX8) (N := 17) hx hb hts hi_X8_isBetween_X8 hown hK.1 hP 0 rfl rfl 4 (by decide) (hts _ k_X8_isBetween_1) (fun _ h9 => h9) rfl dX8_isBetween_40 ?_
      refine lv_bipush (v := (27)) hx hb dX8_isBetween_43 (by decide) ?_
      refine lv_iload_n hx hb dX8_isBetween_45 rfl (lv_at hl 1 rfl) ?_
      refine lv_iadd hx hb dX8_isBetween_46 ?_
      obtain ⟨hi, h⟩ := h
      refine x_iald (v := now ((27 : Int32) + i).toNatClampNeg) hx hb hK hP 5 rfl hi rfl dX8_isBetween_47 ?_
      refine lv_iload_n hx hb dX8_isBetween_48 rfl (lv_at hl 2 rfl) ?_
      refine lv_icmp_ne (tgt := 56) hx hb dX8_isBetween_49 (by decide) (fun hc => ?_) (fun hc => ?_)
      · have h := h.1 hc
        refine lv_iconst (v := (0)) hx hb dX8_isBetween_56 (by decide) ?_
        exact W.zret (v := (0 : Int32)) hx hb hr nar0 (fun zt ht hW => ⟨(0 : Int32), rfl, ⟨h, nar0⟩, ht⟩) (fun zq hq => absurd hq List.not_mem_nil) dX8_isBetween_57
      · have h := h.2 hc
        refine lv_iconst (v := (1)) hx hb dX8_isBetween_52 (by decide) ?_
        refine lv_goto (tgt := 57) hx hb dX8_isBetween_53 (by decide) ?_
        exact W.zret (v := (1 : Int32)) hx hb hr nar1 (fun zt ht hW => ⟨(1 : Int32), rfl, ⟨h, nar1⟩, ht⟩) (fun zq hq => absurd hq List.not_mem_nil) dX8_isBetween_57
  unfold wp_X8_isBetween at h
  refine lv_aload_n hx hb dX8_isBetween_0 rfl (lv_at hl 0 rfl) ?_
  refine va_get (D := D) (ci := 7) (v := .ref (a 5)) (C := RX8) (T := TX8) (N := 17) hx hb hts hi_X8_isBetween_X8 hown hK.1 hP 0 rfl rfl 4 (by decide) (hts _ k_X8_isBetween_1) (fun _ h9 => h9) rfl dX8_isBetween_1 ?_
  refine lv_bipush (v := (15)) hx hb dX8_isBetween_4 (by decide) ?_
  refine lv_iload_n hx hb dX8_isBetween_6 rfl (lv_at hl 1 rfl) ?_
  refine lv_iadd hx hb dX8_isBetween_7 ?_
  obtain ⟨hi, h⟩ := h
  refine x_iald (v := now ((15 : Int32) + i).toNatClampNeg) hx hb hK hP 5 rfl hi rfl dX8_isBetween_8 ?_
  refine lv_iload_n hx hb dX8_isBetween_9 rfl (lv_at hl 2 rfl) ?_
  refine lv_icmp_ne (tgt := 26) hx hb dX8_isBetween_10 (by decide) (fun hc => ?_) (fun hc => ?_)
  · have h := h.1 hc
    exact w_26  () h ls (lv_sub hl [0, 1, 2, 3] rfl)
  · have h := h.2 hc
    refine lv_aload_n hx hb dX8_isBetween_13 rfl (lv_at hl 0 rfl) ?_
    refine va_get (D := D) (ci := 7) (v := .ref (a 5)) (C := RX8) (T := TX8) (N := 17) hx hb hts hi_X8_isBetween_X8 hown hK.1 hP 0 rfl rfl 4 (by decide) (hts _ k_X8_isBetween_1) (fun _ h9 => h9) rfl dX8_isBetween_14 ?_
    refine lv_bipush (v := (27)) hx hb dX8_isBetween_17 (by decide) ?_
    refine lv_iload_n hx hb dX8_isBetween_19 rfl (lv_at hl 1 rfl) ?_
    refine lv_iadd hx hb dX8_isBetween_20 ?_
    obtain ⟨hi, h⟩ := h
    refine x_iald (v := now ((27 : Int32) + i).toNatClampNeg) hx hb hK hP 5 rfl hi rfl dX8_isBetween_21 ?_
    refine lv_iload_n hx hb dX8_isBetween_22 rfl (lv_at hl 3 rfl) ?_
    refine lv_icmp_eq (tgt := 52) hx hb dX8_isBetween_23 (by decide) (fun hc => ?_) (fun hc => ?_)
    · have h := h.1 hc
      refine lv_iconst (v := (1)) hx hb dX8_isBetween_52 (by decide) ?_
      refine lv_goto (tgt := 57) hx hb dX8_isBetween_53 (by decide) ?_
      exact W.zret (v := (1 : Int32)) hx hb hr nar1 (fun zt ht hW => ⟨(1 : Int32), rfl, ⟨h, nar1⟩, ht⟩) (fun zq hq => absurd hq List.not_mem_nil) dX8_isBetween_57
    · have h := h.2 hc
      exact w_26  () h ls (lv_sub hl [0, 1, 2, 3] rfl)

-- IronedQuarrelsModel.heat(II)I
def wb_X8_heat_5 (now : Nat → Int32) (i : Int32) (set : Int32) (post : Int32 → Prop) (K5 : (Int32) → (Int32) → Prop) (x3 : Int32) (x4 : Int32) : Prop :=
  ((now 0) ≤ x4 → (post x3)) ∧ (¬ (now 0) ≤ x4 → ((x4 = i → (K5 (x3 + (0 : Int32)) (x4 + 1))) ∧ (¬ x4 = i → (wp_X8_has set x4 (fun r1 => (r1 = 0 → (K5 (x3 + (0 : Int32)) (x4 + 1))) ∧ (¬ r1 = 0 → (vp_in ((15 : Int32) + i) 115 ∧ vp_in ((27 : Int32) + i) 115 ∧ wp_X8_isBetween now x4 (now ((15 : Int32) + i).toNatClampNeg) (now ((27 : Int32) + i).toNatClampNeg) (fun r2 => (r2 = 0 → (K5 (x3 + (0 : Int32)) (x4 + 1))) ∧ (¬ r2 = 0 → (K5 (x3 + (1 : Int32)) (x4 + 1)))))))))))
def wl_X8_heat_5 (now : Nat → Int32) (i : Int32) (set : Int32) (post : Int32 → Prop) : Nat → (Int32) → (Int32) → Prop
  | 0 => fun _ _ => False
  | zn + 1 => wb_X8_heat_5 now i set post (wl_X8_heat_5 now i set post zn)
def wp_X8_heat (now : Nat → Int32) (i : Int32) (set : Int32) (post : Int32 → Prop) : Prop :=
  ∃ zn, wl_X8_heat_5 now i set post zn (0 : Int32) (0 : Int32)
def rm_X8_heat : Room := { frames := 1, cells := 0, slots := 0, locals := 23 }
theorem k_X8_heat_1 : Cond.fieldLink RX8 22 "IronedQuarrelsModel" "now" "[I" ∈ wsX8_heat := List.mem_of_getElem? (i := 1) (by decide +kernel)
theorem hi_X8_heat_X8 : ∀ w ∈ wsX80, w ∈ wsX8_heat := fun w h => List.mem_cons_of_mem _ (List.mem_append_right _ h)
set_option maxHeartbeats 4000000 in
set_option maxRecDepth 100000 in
theorem c_X8_heat (l : Launch) (D : va_G) (ca : Nat → ClassId) (a : Nat → Nat) (rowSizes : Nat → Int32) (rows : Nat → Int32) (textSizes : Nat → Int32) (texts : Nat → Int32) (now : Nat → Int32) (keeps : Nat → Int32) (kept : Nat → Int32) (asked : Int32) (upper : Int64) (lower : Int64) (finding : Int32) (findings : Nat → Int32) (read : Nat → Int32) (at_ : Int32) (costs : Nat → Int32) (ways : Nat → Int64) (reach : Nat → Int32) (i : Int32) (set : Int32) (post : Int32 → Prop) (h : wp_X8_heat now i set post) : Met l yX8_heat wsX8_heat rm_X8_heat (PcX D ca [.ref (a 0), .int i, .int set] (W_X8 ca a rowSizes rows textSizes texts now keeps kept asked upper lower finding findings read at_ costs ways reach)) (rdI post) 0 0 (fun _ => False) := by
  refine Met.ofW (cc := cX8_heat) (maxL := 5) (ret := (some .int)) (by decide) rfl ?_
  intro zp ze zs zm za zb zt zc z1 B hml hv
  obtain ⟨rfl, hP, hK⟩ := hv
  have hx := B.exec
  have hb := B.bytes
  have hr := B.returns
  have hts := atoms_spec (ws := wsX8_heat) B.pre
  have hown : zs.vm.findClass RX8 = some zm.cls := findClass_of_methodNamed B.named
  have hlocks := B.notSynchronized
  have hl := lv_entry ([.ref (a 0), .int i, .int set]) (n := 5) (Nat.le_of_ble_eq_true rfl)
  rw [lg_entry_eq]
  generalize (lg_sl ([.ref (a 0), .int i, .int set]) ++ List.replicate (5 - (lg_sl ([.ref (a 0), .int i, .int set])).length) Slot.unset).toArray = ls at hl ⊢
  replace hl : lv_has ls 5 [(0, .ref (a 0)), (1, .int i), (2, .int set)] := hl
  show W zp l ze rm_X8_heat zs zm ([.ref (a 0), .int i, .int set] : List Value).toArray zb zt zc zs.heap [] 0 0 (MQ zb (rdI post) ([.ref (a 0), .int i, .int set] : List Value).toArray zs 0 0 (fun _ => False)) (F0 zm 0 ls [])
  have w_5 : ∀ (zn : Nat) (x3 : Int32) (x4 : Int32), wl_X8_heat_5 now i set post zn x3 x4 → ∀ ls : Array Slot, lv_has ls 5 [(0, .ref (a 0)), (1, .int i), (2, .int set), (3, .int x3), (4, .int x4)] → W zp l ze rm_X8_heat zs zm ([.ref (a 0), .int i, .int set] : List Value).toArray zb zt zc zs.heap [] 0 0 (MQ zb (rdI post) ([.ref (a 0), .int i, .int set] : List Value).toArray zs 0 0 (fun _ => False)) (F0 zm 5 ls []) := by
    intro zn
    induction zn with
    | zero => intro x3 x4 h; exact h.elim
    | succ zn ih5 =>
      intro x3 x4 h ls hl
      replace h : wb_X8_heat_5 now i set post (wl_X8_heat_5 now i set post zn) x3 x4 := h
      unfold wb_X8_heat_5 at h
      refine lv_iload hx hb dX8_heat_5 (lv_at hl 4 rfl) ?_
      refine lv_aload_n hx hb dX8_heat_7 rfl (lv_at hl 0 rfl) ?_
      refine va_get (D := D) (ci := 7) (v := .ref (a 5)) (C := RX8) (T := TX8) (N := 17) hx hb hts hi_X8_heat_X8 hown hK.1 hP 0 rfl rfl 4 (by decide) (hts _ k_X8_heat_1) (fun _ h9 => h9) rfl dX8_heat_8 ?_
      refine lv_iconst (v := (0)) hx hb dX8_heat_11 (by decide) ?_
      refine x_iald (v := now 0) hx hb hK hP 5 rfl (vin_lit (by decide)) rfl dX8_heat_12 ?_
      refine lv_icmp_ge (tgt := 72) hx hb dX8_heat_13 (by decide) (fun hc => ?_) (fun hc => ?_)
      · have h := h.1 hc
        refine lv_iload_n hx hb dX8_heat_72 rfl (lv_at hl 3 rfl) ?_
        exact W.iret (v := x3) hx hb hr (fun zt ht hW => ⟨x3, rfl, h, ht⟩) (fun zq hq => absurd hq List.not_mem_nil) dX8_heat_73
      · have h := h.2 hc
        refine lv_iload_n hx hb dX8_heat_16 rfl (lv_at hl 3 rfl) ?_
        refine lv_iload hx hb dX8_heat_17 (lv_at hl 4 rfl) ?_
        refine lv_iload_n hx hb dX8_heat_19 rfl (lv_at hl 1 rfl) ?_
        refine lv_icmp_eq (tgt := 63) hx hb dX8_heat_20 (by decide) (fun hc => ?_) (fun hc => ?_)
        · have h := h.1 hc
          refine lv_iconst (v := (0)) hx hb dX8_heat_63 (by decide) ?_
          refine lv_iadd hx hb dX8_heat_64 ?_
          refine lv_istore_n (lv' := [(3, .int (x3 + (0 : Int32))), (0, .ref (a 0)), (1, .int i), (2, .int set), (4, .int x4)]) hx hb dX8_heat_65 rfl hl (by decide) rfl (fun ls hl => ?_)
          refine lv_iinc (v := x4 + 1) (lv' := [(4, .int (x4 + 1)), (3, .int (x3 + (0 : Int32))), (0, .ref (a 0)), (1, .int i), (2, .int set)]) hx hb dX8_heat_66 hl (k := 4) rfl rfl (by decide) rfl (fun ls hl => ?_)
          refine lv_goto (tgt := 5) hx hb dX8_heat_69 (by decide) ?_
          exact ih5 (x3 + (0 : Int32)) (x4 + 1) h ls (lv_sub hl [2, 3, 4, 1, 0] rfl)
        · have h := h.2 hc
          refine lv_iload_n hx hb dX8_heat_23 rfl (lv_at hl 2 rfl) ?_
          refine lv_iload hx hb dX8_heat_24 (lv_at hl 4 rfl) ?_
          refine rd_callz (va_runS (As := [.int set, .int x4]) (rest := [.int x3]) ⟨hx, hb, hml, hown, hts⟩ (c_X8_has l D ca   set x4 _ h) (va_cwS 2 hts gX8_heat_X8_has rfl rfl rfl (by decide +kernel) ⟨Nat.le_of_ble_eq_true rfl, Nat.le_of_ble_eq_true rfl⟩) (PcX.preS hK (fun zk zq zh => by simp at zh)) rfl rfl hl.1 rfl (lv_room (Nat.le_of_ble_eq_true rfl)) dX8_heat_26 ⟨Nat.le_of_ble_eq_true rfl, Nat.le_of_ble_eq_true rfl⟩) (fun r1 h hz_r1 => ?_)
          try dsimp only at h
          refine lv_if_eq (tgt := 63) hx hb dX8_heat_29 (by decide) (fun hc => ?_) (fun hc => ?_)
          · have h := h.1 hc
            refine lv_iconst (v := (0)) hx hb dX8_heat_63 (by decide) ?_
            refine lv_iadd hx hb dX8_heat_64 ?_
            refine lv_istore_n (lv' := [(3, .int (x3 + (0 : Int32))), (0, .ref (a 0)), (1, .int i), (2, .int set), (4, .int x4)]) hx hb dX8_heat_65 rfl hl (by decide) rfl (fun ls hl => ?_)
            refine lv_iinc (v := x4 + 1) (lv' := [(4, .int (x4 + 1)), (3, .int (x3 + (0 : Int32))), (0, .ref (a 0)), (1, .int i), (2, .int set)]) hx hb dX8_heat_66 hl (k := 4) rfl rfl (by decide) rfl (fun ls hl => ?_)
            refine lv_goto (tgt := 5) hx hb dX8_heat_69 (by decide) ?_
            exact ih5 (x3 + (0 : Int32)) (x4 + 1) h ls (lv_sub hl [2, 3, 4, 1, 0] rfl)
          · have h := h.2 hc
            refine lv_aload_n hx hb dX8_heat_32 rfl (lv_at hl 0 rfl) ?_
            refine lv_iload hx hb dX8_heat_33 (lv_at hl 4 rfl) ?_
            refine lv_aload_n hx hb dX8_heat_35 rfl (lv_at hl 0 rfl) ?_
            refine va_get (D := D) (ci := 7) (v := .ref (a 5)) (C := RX8) (T := TX8) (N := 17) hx hb hts hi_X8_heat_X8 hown hK.1 hP 0 rfl rfl 4 (by decide) (hts _ k_X8_heat_1) (fun _ h9 => h9) rfl dX8_heat_36 ?_
            refine lv_bipush (v := (15)) hx hb dX8_heat_39 (by decide) ?_
            refine lv_iload_n hx hb dX8_heat_41 rfl (lv_at hl 1 rfl) ?_
            refine lv_iadd hx hb dX8_heat_42 ?_
            obtain ⟨hi, h⟩ := h
            refine x_iald (v := now ((15 : Int32) + i).toNatClampNeg) hx hb hK hP 5 rfl hi rfl dX8_heat_43 ?_
            refine lv_aload_n hx hb dX8_heat_44 rfl (lv_at hl 0 rfl) ?_
            refine va_get (D := D) (ci := 7) (v := .ref (a 5)) (C := RX8) (T := TX8) (N := 17) hx hb hts hi_X8_heat_X8 hown hK.1 hP 0 rfl rfl 4 (by decide) (hts _ k_X8_heat_1) (fun _ h9 => h9) rfl dX8_heat_45 ?_
            refine lv_bipush (v := (27)) hx hb dX8_heat_48 (by decide) ?_
            refine lv_iload_n hx hb dX8_heat_50 rfl (lv_at hl 1 rfl) ?_
            refine lv_iadd hx hb dX8_heat_51 ?_
            obtain ⟨hi, h⟩ := h
            refine x_iald (v := now ((27 : Int32) + i).toNatClampNeg) hx hb hK hP 5 rfl hi rfl dX8_heat_52 ?_
            refine rd_callz (va_runV (As := [.int x4, .int (now ((15 : Int32) + i).toNatClampNeg), .int (now ((27 : Int32) + i).toNatClampNeg)]) (rest := [.int x3]) ⟨hx, hb, hml, hown, hts⟩ (c_X8_isBetween l D ca a rowSizes rows textSizes texts now keeps kept asked upper lower finding findings read at_ costs ways reach x4 (now ((15 : Int32) + i).toNatClampNeg) (now ((27 : Int32) + i).toNatClampNeg) _ h) (cwV 3 hts gX8_heat_X8_isBetween rfl rfl rfl (by decide +kernel) ⟨Nat.le_of_ble_eq_true rfl, Nat.le_of_ble_eq_true rfl⟩) (PcX.preV (q := (RX8, TX8, 17)) (ci := 7) (q0 := 0) hK hP rfl rfl hP) rfl rfl hl.1 rfl (lv_room (Nat.le_of_ble_eq_true rfl)) dX8_heat_53 ⟨Nat.le_of_ble_eq_true rfl, Nat.le_of_ble_eq_true rfl⟩) (fun r2 h hz_r2 => ?_)
            try dsimp only at h
            refine lv_if_eq (tgt := 63) hx hb dX8_heat_56 (by decide) (fun hc => ?_) (fun hc => ?_)
            · have h := h.1 hc
              refine lv_iconst (v := (0)) hx hb dX8_heat_63 (by decide) ?_
              refine lv_iadd hx hb dX8_heat_64 ?_
              refine lv_istore_n (lv' := [(3, .int (x3 + (0 : Int32))), (0, .ref (a 0)), (1, .int i), (2, .int set), (4, .int x4)]) hx hb dX8_heat_65 rfl hl (by decide) rfl (fun ls hl => ?_)
              refine lv_iinc (v := x4 + 1) (lv' := [(4, .int (x4 + 1)), (3, .int (x3 + (0 : Int32))), (0, .ref (a 0)), (1, .int i), (2, .int set)]) hx hb dX8_heat_66 hl (k := 4) rfl rfl (by decide) rfl (fun ls hl => ?_)
              refine lv_goto (tgt := 5) hx hb dX8_heat_69 (by decide) ?_
              exact ih5 (x3 + (0 : Int32)) (x4 + 1) h ls (lv_sub hl [2, 3, 4, 1, 0] rfl)
            · have h := h.2 hc
              refine lv_iconst (v := (1)) hx hb dX8_heat_59 (by decide) ?_
              refine lv_goto (tgt := 64) hx hb dX8_heat_60 (by decide) ?_
              refine lv_iadd hx hb dX8_heat_64 ?_
              refine lv_istore_n (lv' := [(3, .int (x3 + (1 : Int32))), (0, .ref (a 0)), (1, .int i), (2, .int set), (4, .int x4)]) hx hb dX8_heat_65 rfl hl (by decide) rfl (fun ls hl => ?_)
              refine lv_iinc (v := x4 + 1) (lv' := [(4, .int (x4 + 1)), (3, .int (x3 + (1 : Int32))), (0, .ref (a 0)), (1, .int i), (2, .int set)]) hx hb dX8_heat_66 hl (k := 4) rfl rfl (by decide) rfl (fun ls hl => ?_)
              refine lv_goto (tgt := 5) hx hb dX8_heat_69 (by decide) ?_
              exact ih5 (x3 + (1 : Int32)) (x4 + 1) h ls (lv_sub hl [2, 3, 4, 1, 0] rfl)
  unfold wp_X8_heat at h
  refine lv_iconst (v := (0)) hx hb dX8_heat_0 (by decide) ?_
  refine lv_istore_n (lv' := [(3, .int (0 : Int32)), (0, .ref (a 0)), (1, .int i), (2, .int set)]) hx hb dX8_heat_1 rfl hl (by decide) rfl (fun ls hl => ?_)
  refine lv_iconst (v := (0)) hx hb dX8_heat_2 (by decide) ?_
  refine lv_istore (lv' := [(4, .int (0 : Int32)), (3, .int (0 : Int32)), (0, .ref (a 0)), (1, .int i), (2, .int set)]) hx hb dX8_heat_3 hl (by decide) rfl (fun ls hl => ?_)
  obtain ⟨zn, h⟩ := h
  exact w_5  zn (0 : Int32) (0 : Int32) h ls (lv_sub hl [2, 3, 4, 1, 0] rfl)

-- IronedQuarrelsModel.price(II)I
def wb_X8_price_96 (now : Nat → Int32) (i : Int32) (post : Int32 → Prop) (x3 : Int32) : Prop :=
  vp_in ((51 : Int32) + i) 115 ∧ post (x3 + (now ((51 : Int32) + i).toNatClampNeg))
def wp_X8_price (now : Nat → Int32) (i : Int32) (set : Int32) (post : Int32 → Prop) : Prop :=
  wp_X8_heat now i set (fun r1 => vp_in ((3 : Int32) + i) 115 ∧ ((now ((3 : Int32) + i).toNatClampNeg) = 1 → (post (r1 + (1 : Int32)))) ∧ ((now ((3 : Int32) + i).toNatClampNeg) = 2 → (wb_X8_price_96 now i post r1)) ∧ ((now ((3 : Int32) + i).toNatClampNeg) = 3 → (vp_in ((51 : Int32) + i) 115 ∧ post (r1 + ((2 : Int32) * (now ((51 : Int32) + i).toNatClampNeg))))) ∧ ((now ((3 : Int32) + i).toNatClampNeg) = 4 → (vp_in ((51 : Int32) + i) 115 ∧ post ((r1 + ((2 : Int32) * (now ((51 : Int32) + i).toNatClampNeg))) / (2 : Int32)))) ∧ ((now ((3 : Int32) + i).toNatClampNeg) = 5 → (vp_in ((39 : Int32) + i) 115 ∧ post ((r1 + (1 : Int32)) + (now ((39 : Int32) + i).toNatClampNeg)))) ∧ (¬ (now ((3 : Int32) + i).toNatClampNeg) = 1 → ¬ (now ((3 : Int32) + i).toNatClampNeg) = 2 → ¬ (now ((3 : Int32) + i).toNatClampNeg) = 3 → ¬ (now ((3 : Int32) + i).toNatClampNeg) = 4 → ¬ (now ((3 : Int32) + i).toNatClampNeg) = 5 → (wb_X8_price_96 now i post r1)))
def rm_X8_price : Room := { frames := 2, cells := 0, slots := 0, locals := 47 }
theorem k_X8_price_1 : Cond.fieldLink RX8 22 "IronedQuarrelsModel" "now" "[I" ∈ wsX8_price := List.mem_of_getElem? (i := 1) (by decide +kernel)
theorem hi_X8_price_X8 : ∀ w ∈ wsX80, w ∈ wsX8_price := fun w h => List.mem_cons_of_mem _ (List.mem_append_right _ h)
set_option maxHeartbeats 4000000 in
set_option maxRecDepth 100000 in
theorem c_X8_price (l : Launch) (D : va_G) (ca : Nat → ClassId) (a : Nat → Nat) (rowSizes : Nat → Int32) (rows : Nat → Int32) (textSizes : Nat → Int32) (texts : Nat → Int32) (now : Nat → Int32) (keeps : Nat → Int32) (kept : Nat → Int32) (asked : Int32) (upper : Int64) (lower : Int64) (finding : Int32) (findings : Nat → Int32) (read : Nat → Int32) (at_ : Int32) (costs : Nat → Int32) (ways : Nat → Int64) (reach : Nat → Int32) (i : Int32) (set : Int32) (post : Int32 → Prop) (h : wp_X8_price now i set post) : Met l yX8_price wsX8_price rm_X8_price (PcX D ca [.ref (a 0), .int i, .int set] (W_X8 ca a rowSizes rows textSizes texts now keeps kept asked upper lower finding findings read at_ costs ways reach)) (rdI post) 0 0 (fun _ => False) := by
  refine Met.ofW (cc := cX8_price) (maxL := 4) (ret := (some .int)) (by decide) rfl ?_
  intro zp ze zs zm za zb zt zc z1 B hml hv
  obtain ⟨rfl, hP, hK⟩ := hv
  have hx := B.exec
  have hb := B.bytes
  have hr := B.returns
  have hts := atoms_spec (ws := wsX8_price) B.pre
  have hown : zs.vm.findClass RX8 = some zm.cls := findClass_of_methodNamed B.named
  have hlocks := B.notSynchronized
  have hl := lv_entry ([.ref (a 0), .int i, .int set]) (n := 4) (Nat.le_of_ble_eq_true rfl)
  rw [lg_entry_eq]
  generalize (lg_sl ([.ref (a 0), .int i, .int set]) ++ List.replicate (4 - (lg_sl ([.ref (a 0), .int i, .int set])).length) Slot.unset).toArray = ls at hl ⊢
  replace hl : lv_has ls 4 [(0, .ref (a 0)), (1, .int i), (2, .int set)] := hl
  show W zp l ze rm_X8_price zs zm ([.ref (a 0), .int i, .int set] : List Value).toArray zb zt zc zs.heap [] 0 0 (MQ zb (rdI post) ([.ref (a 0), .int i, .int set] : List Value).toArray zs 0 0 (fun _ => False)) (F0 zm 0 ls [])
  have w_96 : ∀ (x3 : Int32), wb_X8_price_96 now i post x3 → ∀ ls : Array Slot, lv_has ls 4 [(0, .ref (a 0)), (1, .int i), (3, .int x3)] → W zp l ze rm_X8_price zs zm ([.ref (a 0), .int i, .int set] : List Value).toArray zb zt zc zs.heap [] 0 0 (MQ zb (rdI post) ([.ref (a 0), .int i, .int set] : List Value).toArray zs 0 0 (fun _ => False)) (F0 zm 96 ls []) := by
    intro x3 h ls hl
    unfold wb_X8_price_96 at h
    refine lv_iload_n hx hb dX8_price_96 rfl (lv_at hl 2 rfl) ?_
    refine lv_aload_n hx hb dX8_price_97 rfl (lv_at hl 0 rfl) ?_
    refine va_get (D := D) (ci := 7) (v := .ref (a 5)) (C := RX8) (T := TX8) (N := 17) hx hb hts hi_X8_price_X8 hown hK.1 hP 0 rfl rfl 4 (by decide) (hts _ k_X8_price_1) (fun _ h9 => h9) rfl dX8_price_98 ?_
    refine lv_bipush (v := (51)) hx hb dX8_price_101 (by decide) ?_
    refine lv_iload_n hx hb dX8_price_103 rfl (lv_at hl 1 rfl) ?_
    refine lv_iadd hx hb dX8_price_104 ?_
    obtain ⟨hi, h⟩ := h
    refine x_iald (v := now ((51 : Int32) + i).toNatClampNeg) hx hb hK hP 5 rfl hi rfl dX8_price_105 ?_
    refine lv_iadd hx hb dX8_price_106 ?_
    exact W.iret (v := x3 + (now ((51 : Int32) + i).toNatClampNeg)) hx hb hr (fun zt ht hW => ⟨x3 + (now ((51 : Int32) + i).toNatClampNeg), rfl, h, ht⟩) (fun zq hq => absurd hq List.not_mem_nil) dX8_price_107
  unfold wp_X8_price at h
  refine lv_aload_n hx hb dX8_price_0 rfl (lv_at hl 0 rfl) ?_
  refine lv_iload_n hx hb dX8_price_1 rfl (lv_at hl 1 rfl) ?_
  refine lv_iload_n hx hb dX8_price_2 rfl (lv_at hl 2 rfl) ?_
  refine rd_calli (va_runV (As := [.int i, .int set]) (rest := []) ⟨hx, hb, hml, hown, hts⟩ (c_X8_heat l D ca a rowSizes rows textSizes texts now keeps kept asked upper lower finding findings read at_ costs ways reach i set _ h) (cwV 2 hts gX8_price_X8_heat rfl rfl rfl (by decide +kernel) ⟨Nat.le_of_ble_eq_true rfl, Nat.le_of_ble_eq_true rfl⟩) (PcX.preV (q := (RX8, TX8, 17)) (ci := 7) (q0 := 0) hK hP rfl rfl hP) rfl rfl hl.1 rfl (lv_room (Nat.le_of_ble_eq_true rfl)) dX8_price_3 ⟨Nat.le_of_ble_eq_true rfl, Nat.le_of_ble_eq_true rfl⟩) (fun r1 h => ?_)
  try dsimp only at h
  refine lv_istore_n (lv' := [(3, .int r1), (0, .ref (a 0)), (1, .int i), (2, .int set)]) hx hb dX8_price_6 rfl hl (by decide) rfl (fun ls hl => ?_)
  refine lv_aload_n hx hb dX8_price_7 rfl (lv_at hl 1 rfl) ?_
  refine va_get (D := D) (ci := 7) (v := .ref (a 5)) (C := RX8) (T := TX8) (N := 17) hx hb hts hi_X8_price_X8 hown hK.1 hP 0 rfl rfl 4 (by decide) (hts _ k_X8_price_1) (fun _ h9 => h9) rfl dX8_price_8 ?_
  refine lv_iconst (v := (3)) hx hb dX8_price_11 (by decide) ?_
  refine lv_iload_n hx hb dX8_price_12 rfl (lv_at hl 2 rfl) ?_
  refine lv_iadd hx hb dX8_price_13 ?_
  obtain ⟨hi, h⟩ := h
  refine x_iald (v := now ((3 : Int32) + i).toNatClampNeg) hx hb hK hP 5 rfl hi rfl dX8_price_14 ?_
  by_cases hc0 : (now ((3 : Int32) + i).toNatClampNeg) = 1
  · have h := h.1 hc0
    refine lv_tableIn (tgt := 48) hx hb dX8_price_15 (by rw [hc0]; decide) (by rw [hc0]; decide) (by rw [hc0]; rfl) (by decide) ?_
    refine lv_iload_n hx hb dX8_price_48 rfl (lv_at hl 0 rfl) ?_
    refine lv_iconst (v := (1)) hx hb dX8_price_49 (by decide) ?_
    refine lv_iadd hx hb dX8_price_50 ?_
    exact W.iret (v := r1 + (1 : Int32)) hx hb hr (fun zt ht hW => ⟨r1 + (1 : Int32), rfl, h, ht⟩) (fun zq hq => absurd hq List.not_mem_nil) dX8_price_51
  · have h := h.2
    by_cases hc1 : (now ((3 : Int32) + i).toNatClampNeg) = 2
    · have h := h.1 hc1
      refine lv_tableIn (tgt := 96) hx hb dX8_price_15 (by rw [hc1]; decide) (by rw [hc1]; decide) (by rw [hc1]; rfl) (by decide) ?_
      exact w_96  r1 h ls (lv_sub hl [1, 2, 0] rfl)
    · have h := h.2
      by_cases hc2 : (now ((3 : Int32) + i).toNatClampNeg) = 3
      · have h := h.1 hc2
        refine lv_tableIn (tgt := 66) hx hb dX8_price_15 (by rw [hc2]; decide) (by rw [hc2]; decide) (by rw [hc2]; rfl) (by decide) ?_
        refine lv_iload_n hx hb dX8_price_66 rfl (lv_at hl 0 rfl) ?_
        refine lv_iconst (v := (2)) hx hb dX8_price_67 (by decide) ?_
        refine lv_aload_n hx hb dX8_price_68 rfl (lv_at hl 1 rfl) ?_
        refine va_get (D := D) (ci := 7) (v := .ref (a 5)) (C := RX8) (T := TX8) (N := 17) hx hb hts hi_X8_price_X8 hown hK.1 hP 0 rfl rfl 4 (by decide) (hts _ k_X8_price_1) (fun _ h9 => h9) rfl dX8_price_69 ?_
        refine lv_bipush (v := (51)) hx hb dX8_price_72 (by decide) ?_
        refine lv_iload_n hx hb dX8_price_74 rfl (lv_at hl 2 rfl) ?_
        refine lv_iadd hx hb dX8_price_75 ?_
        obtain ⟨hi, h⟩ := h
        refine x_iald (v := now ((51 : Int32) + i).toNatClampNeg) hx hb hK hP 5 rfl hi rfl dX8_price_76 ?_
        refine lv_imul hx hb dX8_price_77 ?_
        refine lv_iadd hx hb dX8_price_78 ?_
        exact W.iret (v := r1 + ((2 : Int32) * (now ((51 : Int32) + i).toNatClampNeg))) hx hb hr (fun zt ht hW => ⟨r1 + ((2 : Int32) * (now ((51 : Int32) + i).toNatClampNeg)), rfl, h, ht⟩) (fun zq hq => absurd hq List.not_mem_nil) dX8_price_79
      · have h := h.2
        by_cases hc3 : (now ((3 : Int32) + i).toNatClampNeg) = 4
        · have h := h.1 hc3
          refine lv_tableIn (tgt := 80) hx hb dX8_price_15 (by rw [hc3]; decide) (by rw [hc3]; decide) (by rw [hc3]; rfl) (by decide) ?_
          refine lv_iload_n hx hb dX8_price_80 rfl (lv_at hl 0 rfl) ?_
          refine lv_iconst (v := (2)) hx hb dX8_price_81 (by decide) ?_
          refine lv_aload_n hx hb dX8_price_82 rfl (lv_at hl 1 rfl) ?_
          refine va_get (D := D) (ci := 7) (v := .ref (a 5)) (C := RX8) (T := TX8) (N := 17) hx hb hts hi_X8_price_X8 hown hK.1 hP 0 rfl rfl 4 (by decide) (hts _ k_X8_price_1) (fun _ h9 => h9) rfl dX8_price_83 ?_
          refine lv_bipush (v := (51)) hx hb dX8_price_86 (by decide) ?_
          refine lv_iload_n hx hb dX8_price_88 rfl (lv_at hl 2 rfl) ?_
          refine lv_iadd hx hb dX8_price_89 ?_
          obtain ⟨hi, h⟩ := h
          refine x_iald (v := now ((51 : Int32) + i).toNatClampNeg) hx hb hK hP 5 rfl hi rfl dX8_price_90 ?_
          refine lv_imul hx hb dX8_price_91 ?_
          refine lv_iadd hx hb dX8_price_92 ?_
          refine lv_iconst (v := (2)) hx hb dX8_price_93 (by decide) ?_
          refine lv_idiv hx hb dX8_price_94 (by decide) ?_
          exact W.iret (v := (r1 + ((2 : Int32) * (now ((51 : Int32) + i).toNatClampNeg))) / (2 : Int32)) hx hb hr (fun zt ht hW => ⟨(r1 + ((2 : Int32) * (now ((51 : Int32) + i).toNatClampNeg))) / (2 : Int32), rfl, h, ht⟩) (fun zq hq => absurd hq List.not_mem_nil) dX8_price_95
        · have h := h.2
          by_cases hc4 : (now ((3 : Int32) + i).toNatClampNeg) = 5
          · have h := h.1 hc4
            refine lv_tableIn (tgt := 52) hx hb dX8_price_15 (by rw [hc4]; decide) (by rw [hc4]; decide) (by rw [hc4]; rfl) (by decide) ?_
            refine lv_iload_n hx hb dX8_price_52 rfl (lv_at hl 0 rfl) ?_
            refine lv_iconst (v := (1)) hx hb dX8_price_53 (by decide) ?_
            refine lv_iadd hx hb dX8_price_54 ?_
            refine lv_aload_n hx hb dX8_price_55 rfl (lv_at hl 1 rfl) ?_
            refine va_get (D := D) (ci := 7) (v := .ref (a 5)) (C := RX8) (T := TX8) (N := 17) hx hb hts hi_X8_price_X8 hown hK.1 hP 0 rfl rfl 4 (by decide) (hts _ k_X8_price_1) (fun _ h9 => h9) rfl dX8_price_56 ?_
            refine lv_bipush (v := (39)) hx hb dX8_price_59 (by decide) ?_
            refine lv_iload_n hx hb dX8_price_61 rfl (lv_at hl 2 rfl) ?_
            refine lv_iadd hx hb dX8_price_62 ?_
            obtain ⟨hi, h⟩ := h
            refine x_iald (v := now ((39 : Int32) + i).toNatClampNeg) hx hb hK hP 5 rfl hi rfl dX8_price_63 ?_
            refine lv_iadd hx hb dX8_price_64 ?_
            exact W.iret (v := (r1 + (1 : Int32)) + (now ((39 : Int32) + i).toNatClampNeg)) hx hb hr (fun zt ht hW => ⟨(r1 + (1 : Int32)) + (now ((39 : Int32) + i).toNatClampNeg), rfl, h, ht⟩) (fun zq hq => absurd hq List.not_mem_nil) dX8_price_65
          · have h := h.2
            have h := h hc0 hc1 hc2 hc3 hc4
            have hsw : (now ((3 : Int32) + i).toNatClampNeg).toInt < 1 ∨ 5 < (now ((3 : Int32) + i).toNatClampNeg).toInt := x_swOutL 1 5 5 (by decide) (by decide) (by decide) (fun j hj => by rcases (show j = 0 ∨ j = 1 ∨ j = 2 ∨ j = 3 ∨ j = 4 by omega) with rfl | rfl | rfl | rfl | rfl <;> assumption)
            refine lv_tableOut (tgt := 96) hx hb dX8_price_15 hsw (by decide) ?_
            exact w_96  r1 h ls (lv_sub hl [1, 2, 0] rfl)

-- IronedQuarrelsModel.answering(II)I
def wb_X8_answering_5 (now : Nat → Int32) (i : Int32) (set : Int32) (post : Int32 → Prop) (K5 : (Int32) → (Int32) → Prop) (x3 : Int32) (x4 : Int32) : Prop :=
  ((now 0) ≤ x4 → (post x3)) ∧ (¬ (now 0) ≤ x4 → (wp_X8_has set x4 (fun r1 => (r1 = 0 → (K5 (x3 + (0 : Int32)) (x4 + 1))) ∧ (¬ r1 = 0 → (vp_in ((63 : Int32) + x4) 115 ∧ (¬ (now ((63 : Int32) + x4).toNatClampNeg) = i → (K5 (x3 + (0 : Int32)) (x4 + 1))) ∧ ((now ((63 : Int32) + x4).toNatClampNeg) = i → (K5 (x3 + (1 : Int32)) (x4 + 1))))))))
def wl_X8_answering_5 (now : Nat → Int32) (i : Int32) (set : Int32) (post : Int32 → Prop) : Nat → (Int32) → (Int32) → Prop
  | 0 => fun _ _ => False
  | zn + 1 => wb_X8_answering_5 now i set post (wl_X8_answering_5 now i set post zn)
def wp_X8_answering (now : Nat → Int32) (i : Int32) (set : Int32) (post : Int32 → Prop) : Prop :=
  ∃ zn, wl_X8_answering_5 now i set post zn (0 : Int32) (0 : Int32)
def rm_X8_answering : Room := { frames := 1, cells := 0, slots := 0, locals := 21 }
theorem k_X8_answering_1 : Cond.fieldLink RX8 22 "IronedQuarrelsModel" "now" "[I" ∈ wsX8_answering := List.mem_of_getElem? (i := 1) (by decide +kernel)
theorem hi_X8_answering_X8 : ∀ w ∈ wsX80, w ∈ wsX8_answering := fun w h => List.mem_cons_of_mem _ (List.mem_append_right _ h)
set_option maxHeartbeats 4000000 in
set_option maxRecDepth 100000 in
theorem c_X8_answering (l : Launch) (D : va_G) (ca : Nat → ClassId) (a : Nat → Nat) (rowSizes : Nat → Int32) (rows : Nat → Int32) (textSizes : Nat → Int32) (texts : Nat → Int32) (now : Nat → Int32) (keeps : Nat → Int32) (kept : Nat → Int32) (asked : Int32) (upper : Int64) (lower : Int64) (finding : Int32) (findings : Nat → Int32) (read : Nat → Int32) (at_ : Int32) (costs : Nat → Int32) (ways : Nat → Int64) (reach : Nat → Int32) (i : Int32) (set : Int32) (post : Int32 → Prop) (h : wp_X8_answering now i set post) : Met l yX8_answering wsX8_answering rm_X8_answering (PcX D ca [.ref (a 0), .int i, .int set] (W_X8 ca a rowSizes rows textSizes texts now keeps kept asked upper lower finding findings read at_ costs ways reach)) (rdI post) 0 0 (fun _ => False) := by
  refine Met.ofW (cc := cX8_answering) (maxL := 5) (ret := (some .int)) (by decide) rfl ?_
  intro zp ze zs zm za zb zt zc z1 B hml hv
  obtain ⟨rfl, hP, hK⟩ := hv
  have hx := B.exec
  have hb := B.bytes
  have hr := B.returns
  have hts := atoms_spec (ws := wsX8_answering) B.pre
  have hown : zs.vm.findClass RX8 = some zm.cls := findClass_of_methodNamed B.named
  have hlocks := B.notSynchronized
  have hl := lv_entry ([.ref (a 0), .int i, .int set]) (n := 5) (Nat.le_of_ble_eq_true rfl)
  rw [lg_entry_eq]
  generalize (lg_sl ([.ref (a 0), .int i, .int set]) ++ List.replicate (5 - (lg_sl ([.ref (a 0), .int i, .int set])).length) Slot.unset).toArray = ls at hl ⊢
  replace hl : lv_has ls 5 [(0, .ref (a 0)), (1, .int i), (2, .int set)] := hl
  show W zp l ze rm_X8_answering zs zm ([.ref (a 0), .int i, .int set] : List Value).toArray zb zt zc zs.heap [] 0 0 (MQ zb (rdI post) ([.ref (a 0), .int i, .int set] : List Value).toArray zs 0 0 (fun _ => False)) (F0 zm 0 ls [])
  have w_5 : ∀ (zn : Nat) (x3 : Int32) (x4 : Int32), wl_X8_answering_5 now i set post zn x3 x4 → ∀ ls : Array Slot, lv_has ls 5 [(0, .ref (a 0)), (1, .int i), (2, .int set), (3, .int x3), (4, .int x4)] → W zp l ze rm_X8_answering zs zm ([.ref (a 0), .int i, .int set] : List Value).toArray zb zt zc zs.heap [] 0 0 (MQ zb (rdI post) ([.ref (a 0), .int i, .int set] : List Value).toArray zs 0 0 (fun _ => False)) (F0 zm 5 ls []) := by
    intro zn
    induction zn with
    | zero => intro x3 x4 h; exact h.elim
    | succ zn ih5 =>
      intro x3 x4 h ls hl
      replace h : wb_X8_answering_5 now i set post (wl_X8_answering_5 now i set post zn) x3 x4 := h
      unfold wb_X8_answering_5 at h
      refine lv_iload hx hb dX8_answering_5 (lv_at hl 4 rfl) ?_
      refine lv_aload_n hx hb dX8_answering_7 rfl (lv_at hl 0 rfl) ?_
      refine va_get (D := D) (ci := 7) (v := .ref (a 5)) (C := RX8) (T := TX8) (N := 17) hx hb hts hi_X8_answering_X8 hown hK.1 hP 0 rfl rfl 4 (by decide) (hts _ k_X8_answering_1) (fun _ h9 => h9) rfl dX8_answering_8 ?_
      refine lv_iconst (v := (0)) hx hb dX8_answering_11 (by decide) ?_
      refine x_iald (v := now 0) hx hb hK hP 5 rfl (vin_lit (by decide)) rfl dX8_answering_12 ?_
      refine lv_icmp_ge (tgt := 53) hx hb dX8_answering_13 (by decide) (fun hc => ?_) (fun hc => ?_)
      · have h := h.1 hc
        refine lv_iload_n hx hb dX8_answering_53 rfl (lv_at hl 3 rfl) ?_
        exact W.iret (v := x3) hx hb hr (fun zt ht hW => ⟨x3, rfl, h, ht⟩) (fun zq hq => absurd hq List.not_mem_nil) dX8_answering_54
      · have h := h.2 hc
        refine lv_iload_n hx hb dX8_answering_16 rfl (lv_at hl 3 rfl) ?_
        refine lv_iload_n hx hb dX8_answering_17 rfl (lv_at hl 2 rfl) ?_
        refine lv_iload hx hb dX8_answering_18 (lv_at hl 4 rfl) ?_
        refine rd_callz (va_runS (As := [.int set, .int x4]) (rest := [.int x3]) ⟨hx, hb, hml, hown, hts⟩ (c_X8_has l D ca   set x4 _ h) (va_cwS 2 hts gX8_answering_X8_has rfl rfl rfl (by decide +kernel) ⟨Nat.le_of_ble_eq_true rfl, Nat.le_of_ble_eq_true rfl⟩) (PcX.preS hK (fun zk zq zh => by simp at zh)) rfl rfl hl.1 rfl (lv_room (Nat.le_of_ble_eq_true rfl)) dX8_answering_20 ⟨Nat.le_of_ble_eq_true rfl, Nat.le_of_ble_eq_true rfl⟩) (fun r1 h hz_r1 => ?_)
        try dsimp only at h
        refine lv_if_eq (tgt := 44) hx hb dX8_answering_23 (by decide) (fun hc => ?_) (fun hc => ?_)
        · have h := h.1 hc
          refine lv_iconst (v := (0)) hx hb dX8_answering_44 (by decide) ?_
          refine lv_iadd hx hb dX8_answering_45 ?_
          refine lv_istore_n (lv' := [(3, .int (x3 + (0 : Int32))), (0, .ref (a 0)), (1, .int i), (2, .int set), (4, .int x4)]) hx hb dX8_answering_46 rfl hl (by decide) rfl (fun ls hl => ?_)
          refine lv_iinc (v := x4 + 1) (lv' := [(4, .int (x4 + 1)), (3, .int (x3 + (0 : Int32))), (0, .ref (a 0)), (1, .int i), (2, .int set)]) hx hb dX8_answering_47 hl (k := 4) rfl rfl (by decide) rfl (fun ls hl => ?_)
          refine lv_goto (tgt := 5) hx hb dX8_answering_50 (by decide) ?_
          exact ih5 (x3 + (0 : Int32)) (x4 + 1) h ls (lv_sub hl [2, 3, 4, 1, 0] rfl)
        · have h := h.2 hc
          refine lv_aload_n hx hb dX8_answering_26 rfl (lv_at hl 0 rfl) ?_
          refine va_get (D := D) (ci := 7) (v := .ref (a 5)) (C := RX8) (T := TX8) (N := 17) hx hb hts hi_X8_answering_X8 hown hK.1 hP 0 rfl rfl 4 (by decide) (hts _ k_X8_answering_1) (fun _ h9 => h9) rfl dX8_answering_27 ?_
          refine lv_bipush (v := (63)) hx hb dX8_answering_30 (by decide) ?_
          refine lv_iload hx hb dX8_answering_32 (lv_at hl 4 rfl) ?_
          refine lv_iadd hx hb dX8_answering_34 ?_
          obtain ⟨hi, h⟩ := h
          refine x_iald (v := now ((63 : Int32) + x4).toNatClampNeg) hx hb hK hP 5 rfl hi rfl dX8_answering_35 ?_
          refine lv_iload_n hx hb dX8_answering_36 rfl (lv_at hl 1 rfl) ?_
          refine lv_icmp_ne (tgt := 44) hx hb dX8_answering_37 (by decide) (fun hc => ?_) (fun hc => ?_)
          · have h := h.1 hc
            refine lv_iconst (v := (0)) hx hb dX8_answering_44 (by decide) ?_
            refine lv_iadd hx hb dX8_answering_45 ?_
            refine lv_istore_n (lv' := [(3, .int (x3 + (0 : Int32))), (0, .ref (a 0)), (1, .int i), (2, .int set), (4, .int x4)]) hx hb dX8_answering_46 rfl hl (by decide) rfl (fun ls hl => ?_)
            refine lv_iinc (v := x4 + 1) (lv' := [(4, .int (x4 + 1)), (3, .int (x3 + (0 : Int32))), (0, .ref (a 0)), (1, .int i), (2, .int set)]) hx hb dX8_answering_47 hl (k := 4) rfl rfl (by decide) rfl (fun ls hl => ?_)
            refine lv_goto (tgt := 5) hx hb dX8_answering_50 (by decide) ?_
            exact ih5 (x3 + (0 : Int32)) (x4 + 1) h ls (lv_sub hl [2, 3, 4, 1, 0] rfl)
          · have h := h.2 hc
            refine lv_iconst (v := (1)) hx hb dX8_answering_40 (by decide) ?_
            refine lv_goto (tgt := 45) hx hb dX8_answering_41 (by decide) ?_
            refine lv_iadd hx hb dX8_answering_45 ?_
            refine lv_istore_n (lv' := [(3, .int (x3 + (1 : Int32))), (0, .ref (a 0)), (1, .int i), (2, .int set), (4, .int x4)]) hx hb dX8_answering_46 rfl hl (by decide) rfl (fun ls hl => ?_)
            refine lv_iinc (v := x4 + 1) (lv' := [(4, .int (x4 + 1)), (3, .int (x3 + (1 : Int32))), (0, .ref (a 0)), (1, .int i), (2, .int set)]) hx hb dX8_answering_47 hl (k := 4) rfl rfl (by decide) rfl (fun ls hl => ?_)
            refine lv_goto (tgt := 5) hx hb dX8_answering_50 (by decide) ?_
            exact ih5 (x3 + (1 : Int32)) (x4 + 1) h ls (lv_sub hl [2, 3, 4, 1, 0] rfl)
  unfold wp_X8_answering at h
  refine lv_iconst (v := (0)) hx hb dX8_answering_0 (by decide) ?_
  refine lv_istore_n (lv' := [(3, .int (0 : Int32)), (0, .ref (a 0)), (1, .int i), (2, .int set)]) hx hb dX8_answering_1 rfl hl (by decide) rfl (fun ls hl => ?_)
  refine lv_iconst (v := (0)) hx hb dX8_answering_2 (by decide) ?_
  refine lv_istore (lv' := [(4, .int (0 : Int32)), (3, .int (0 : Int32)), (0, .ref (a 0)), (1, .int i), (2, .int set)]) hx hb dX8_answering_3 hl (by decide) rfl (fun ls hl => ?_)
  obtain ⟨zn, h⟩ := h
  exact w_5  zn (0 : Int32) (0 : Int32) h ls (lv_sub hl [2, 3, 4, 1, 0] rfl)

-- IronedQuarrelsModel.mayBe(II)Z
def wp_X8_mayBe (now : Nat → Int32) (i : Int32) (set : Int32) (post : Int32 → Prop) : Prop :=
  wp_X8_has set i (fun r1 => (r1 = 0 → (post (0 : Int32))) ∧ (¬ r1 = 0 → (vp_in ((3 : Int32) + i) 115 ∧ ((now ((3 : Int32) + i).toNatClampNeg) = (4 : Int32) → (post (1 : Int32))) ∧ (¬ (now ((3 : Int32) + i).toNatClampNeg) = (4 : Int32) → (wp_X8_answering now i set (fun r2 => (¬ r2 = 0 → (post (0 : Int32))) ∧ (r2 = 0 → (post (1 : Int32)))))))))
def rm_X8_mayBe : Room := { frames := 2, cells := 0, slots := 0, locals := 45 }
theorem k_X8_mayBe_1 : Cond.fieldLink RX8 22 "IronedQuarrelsModel" "now" "[I" ∈ wsX8_mayBe := List.mem_of_getElem? (i := 1) (by decide +kernel)
theorem hi_X8_mayBe_X8 : ∀ w ∈ wsX80, w ∈ wsX8_mayBe := fun w h => List.mem_cons_of_mem _ (List.mem_append_right _ h)
set_option maxHeartbeats 4000000 in
set_option maxRecDepth 100000 in
theorem c_X8_mayBe (l : Launch) (D : va_G) (ca : Nat → ClassId) (a : Nat → Nat) (rowSizes : Nat → Int32) (rows : Nat → Int32) (textSizes : Nat → Int32) (texts : Nat → Int32) (now : Nat → Int32) (keeps : Nat → Int32) (kept : Nat → Int32) (asked : Int32) (upper : Int64) (lower : Int64) (finding : Int32) (findings : Nat → Int32) (read : Nat → Int32) (at_ : Int32) (costs : Nat → Int32) (ways : Nat → Int64) (reach : Nat → Int32) (i : Int32) (set : Int32) (post : Int32 → Prop) (h : wp_X8_mayBe now i set post) : Met l yX8_mayBe wsX8_mayBe rm_X8_mayBe (PcX D ca [.ref (a 0), .int i, .int set] (W_X8 ca a rowSizes rows textSizes texts now keeps kept asked upper lower finding findings read at_ costs ways reach)) (rdZ post) 0 0 (fun _ => False) := by
  refine Met.ofW (cc := cX8_mayBe) (maxL := 3) (ret := (some .boolean)) (by decide) rfl ?_
  intro zp ze zs zm za zb zt zc z1 B hml hv
  obtain ⟨rfl, hP, hK⟩ := hv
  have hx := B.exec
  have hb := B.bytes
  have hr := B.returns
  have hts := atoms_spec (ws := wsX8_mayBe) B.pre
  have hown : zs.vm.findClass RX8 = some zm.cls := findClass_of_methodNamed B.named
  have hlocks := B.notSynchronized
  have hl := lv_entry ([.ref (a 0), .int i, .int set]) (n := 3) (Nat.le_of_ble_eq_true rfl)
  rw [lg_entry_eq]
  generalize (lg_sl ([.ref (a 0), .int i, .int set]) ++ List.replicate (3 - (lg_sl ([.ref (a 0), .int i, .int set])).length) Slot.unset).toArray = ls at hl ⊢
  replace hl : lv_has ls 3 [(0, .ref (a 0)), (1, .int i), (2, .int set)] := hl
  show W zp l ze rm_X8_mayBe zs zm ([.ref (a 0), .int i, .int set] : List Value).toArray zb zt zc zs.heap [] 0 0 (MQ zb (rdZ post) ([.ref (a 0), .int i, .int set] : List Value).toArray zs 0 0 (fun _ => False)) (F0 zm 0 ls [])
  unfold wp_X8_mayBe at h
  refine lv_iload_n hx hb dX8_mayBe_0 rfl (lv_at hl 2 rfl) ?_
  refine lv_iload_n hx hb dX8_mayBe_1 rfl (lv_at hl 1 rfl) ?_
  refine rd_callz (va_runS (As := [.int set, .int i]) (rest := []) ⟨hx, hb, hml, hown, hts⟩ (c_X8_has l D ca   set i _ h) (va_cwS 2 hts gX8_mayBe_X8_has rfl rfl rfl (by decide +kernel) ⟨Nat.le_of_ble_eq_true rfl, Nat.le_of_ble_eq_true rfl⟩) (PcX.preS hK (fun zk zq zh => by simp at zh)) rfl rfl hl.1 rfl (lv_room (Nat.le_of_ble_eq_true rfl)) dX8_mayBe_2 ⟨Nat.le_of_ble_eq_true rfl, Nat.le_of_ble_eq_true rfl⟩) (fun r1 h hz_r1 => ?_)
  try dsimp only at h
  refine lv_if_eq (tgt := 33) hx hb dX8_mayBe_5 (by decide) (fun hc => ?_) (fun hc => ?_)
  · have h := h.1 hc
    refine lv_iconst (v := (0)) hx hb dX8_mayBe_33 (by decide) ?_
    exact W.zret (v := (0 : Int32)) hx hb hr nar0 (fun zt ht hW => ⟨(0 : Int32), rfl, ⟨h, nar0⟩, ht⟩) (fun zq hq => absurd hq List.not_mem_nil) dX8_mayBe_34
  · have h := h.2 hc
    refine lv_aload_n hx hb dX8_mayBe_8 rfl (lv_at hl 0 rfl) ?_
    refine va_get (D := D) (ci := 7) (v := .ref (a 5)) (C := RX8) (T := TX8) (N := 17) hx hb hts hi_X8_mayBe_X8 hown hK.1 hP 0 rfl rfl 4 (by decide) (hts _ k_X8_mayBe_1) (fun _ h9 => h9) rfl dX8_mayBe_9 ?_
    refine lv_iconst (v := (3)) hx hb dX8_mayBe_12 (by decide) ?_
    refine lv_iload_n hx hb dX8_mayBe_13 rfl (lv_at hl 1 rfl) ?_
    refine lv_iadd hx hb dX8_mayBe_14 ?_
    obtain ⟨hi, h⟩ := h
    refine x_iald (v := now ((3 : Int32) + i).toNatClampNeg) hx hb hK hP 5 rfl hi rfl dX8_mayBe_15 ?_
    refine lv_iconst (v := (4)) hx hb dX8_mayBe_16 (by decide) ?_
    refine lv_icmp_eq (tgt := 29) hx hb dX8_mayBe_17 (by decide) (fun hc => ?_) (fun hc => ?_)
    · have h := h.1 hc
      refine lv_iconst (v := (1)) hx hb dX8_mayBe_29 (by decide) ?_
      refine lv_goto (tgt := 34) hx hb dX8_mayBe_30 (by decide) ?_
      exact W.zret (v := (1 : Int32)) hx hb hr nar1 (fun zt ht hW => ⟨(1 : Int32), rfl, ⟨h, nar1⟩, ht⟩) (fun zq hq => absurd hq List.not_mem_nil) dX8_mayBe_34
    · have h := h.2 hc
      refine lv_aload_n hx hb dX8_mayBe_20 rfl (lv_at hl 0 rfl) ?_
      refine lv_iload_n hx hb dX8_mayBe_21 rfl (lv_at hl 1 rfl) ?_
      refine lv_iload_n hx hb dX8_mayBe_22 rfl (lv_at hl 2 rfl) ?_
      refine rd_calli (va_runV (As := [.int i, .int set]) (rest := []) ⟨hx, hb, hml, hown, hts⟩ (c_X8_answering l D ca a rowSizes rows textSizes texts now keeps kept asked upper lower finding findings read at_ costs ways reach i set _ h) (cwV 2 hts gX8_mayBe_X8_answering rfl rfl rfl (by decide +kernel) ⟨Nat.le_of_ble_eq_true rfl, Nat.le_of_ble_eq_true rfl⟩) (PcX.preV (q := (RX8, TX8, 17)) (ci := 7) (q0 := 0) hK hP rfl rfl hP) rfl rfl hl.1 rfl (lv_room (Nat.le_of_ble_eq_true rfl)) dX8_mayBe_23 ⟨Nat.le_of_ble_eq_true rfl, Nat.le_of_ble_eq_true rfl⟩) (fun r2 h => ?_)
      try dsimp only at h
      refine lv_if_ne (tgt := 33) hx hb dX8_mayBe_26 (by decide) (fun hc => ?_) (fun hc => ?_)
      · have h := h.1 hc
        refine lv_iconst (v := (0)) hx hb dX8_mayBe_33 (by decide) ?_
        exact W.zret (v := (0 : Int32)) hx hb hr nar0 (fun zt ht hW => ⟨(0 : Int32), rfl, ⟨h, nar0⟩, ht⟩) (fun zq hq => absurd hq List.not_mem_nil) dX8_mayBe_34
      · have h := h.2 hc
        refine lv_iconst (v := (1)) hx hb dX8_mayBe_29 (by decide) ?_
        refine lv_goto (tgt := 34) hx hb dX8_mayBe_30 (by decide) ?_
        exact W.zret (v := (1 : Int32)) hx hb hr nar1 (fun zt ht hW => ⟨(1 : Int32), rfl, ⟨h, nar1⟩, ht⟩) (fun zq hq => absurd hq List.not_mem_nil) dX8_mayBe_34

-- IronedQuarrelsModel.told(II)I
def wp_X8_told (now : Nat → Int32) (i : Int32) (what : Int32) (post : Int32 → Prop) : Prop :=
  ((6 : Int32) ≤ what → ((¬ what = (6 : Int32) → (wp_X8_price now i (now 2) (fun r1 => post r1))) ∧ (what = (6 : Int32) → (post (((now 2) >>> (i &&& 31)) &&& (1 : Int32)))))) ∧ (¬ (6 : Int32) ≤ what → (vp_in (((3 : Int32) + ((12 : Int32) * what)) + i) 115 ∧ post (now (((3 : Int32) + ((12 : Int32) * what)) + i).toNatClampNeg)))
def rm_X8_told : Room := { frames := 3, cells := 0, slots := 0, locals := 70 }
theorem k_X8_told_1 : Cond.fieldLink RX8 22 "IronedQuarrelsModel" "now" "[I" ∈ wsX8_told := List.mem_of_getElem? (i := 1) (by decide +kernel)
theorem hi_X8_told_X8 : ∀ w ∈ wsX80, w ∈ wsX8_told := fun w h => List.mem_cons_of_mem _ (List.mem_append_right _ h)
set_option maxHeartbeats 4000000 in
set_option maxRecDepth 100000 in
theorem c_X8_told (l : Launch) (D : va_G) (ca : Nat → ClassId) (a : Nat → Nat) (rowSizes : Nat → Int32) (rows : Nat → Int32) (textSizes : Nat → Int32) (texts : Nat → Int32) (now : Nat → Int32) (keeps : Nat → Int32) (kept : Nat → Int32) (asked : Int32) (upper : Int64) (lower : Int64) (finding : Int32) (findings : Nat → Int32) (read : Nat → Int32) (at_ : Int32) (costs : Nat → Int32) (ways : Nat → Int64) (reach : Nat → Int32) (i : Int32) (what : Int32) (post : Int32 → Prop) (h : wp_X8_told now i what post) : Met l yX8_told wsX8_told rm_X8_told (PcX D ca [.ref (a 0), .int i, .int what] (W_X8 ca a rowSizes rows textSizes texts now keeps kept asked upper lower finding findings read at_ costs ways reach)) (rdI post) 0 0 (fun _ => False) := by
  refine Met.ofW (cc := cX8_told) (maxL := 3) (ret := (some .int)) (by decide) rfl ?_
  intro zp ze zs zm za zb zt zc z1 B hml hv
  obtain ⟨rfl, hP, hK⟩ := hv
  have hx := B.exec
  have hb := B.bytes
  have hr := B.returns
  have hts := atoms_spec (ws := wsX8_told) B.pre
  have hown : zs.vm.findClass RX8 = some zm.cls := findClass_of_methodNamed B.named
  have hlocks := B.notSynchronized
  have hl := lv_entry ([.ref (a 0), .int i, .int what]) (n := 3) (Nat.le_of_ble_eq_true rfl)
  rw [lg_entry_eq]
  generalize (lg_sl ([.ref (a 0), .int i, .int what]) ++ List.replicate (3 - (lg_sl ([.ref (a 0), .int i, .int what])).length) Slot.unset).toArray = ls at hl ⊢
  replace hl : lv_has ls 3 [(0, .ref (a 0)), (1, .int i), (2, .int what)] := hl
  show W zp l ze rm_X8_told zs zm ([.ref (a 0), .int i, .int what] : List Value).toArray zb zt zc zs.heap [] 0 0 (MQ zb (rdI post) ([.ref (a 0), .int i, .int what] : List Value).toArray zs 0 0 (fun _ => False)) (F0 zm 0 ls [])
  unfold wp_X8_told at h
  refine lv_iload_n hx hb dX8_told_0 rfl (lv_at hl 2 rfl) ?_
  refine lv_bipush (v := (6)) hx hb dX8_told_1 (by decide) ?_
  refine lv_icmp_ge (tgt := 22) hx hb dX8_told_3 (by decide) (fun hc => ?_) (fun hc => ?_)
  · have h := h.1 hc
    refine lv_iload_n hx hb dX8_told_22 rfl (lv_at hl 2 rfl) ?_
    refine lv_bipush (v := (6)) hx hb dX8_told_23 (by decide) ?_
    refine lv_icmp_ne (tgt := 41) hx hb dX8_told_25 (by decide) (fun hc => ?_) (fun hc => ?_)
    · have h := h.1 hc
      refine lv_aload_n hx hb dX8_told_41 rfl (lv_at hl 0 rfl) ?_
      refine lv_iload_n hx hb dX8_told_42 rfl (lv_at hl 1 rfl) ?_
      refine lv_aload_n hx hb dX8_told_43 rfl (lv_at hl 0 rfl) ?_
      refine va_get (D := D) (ci := 7) (v := .ref (a 5)) (C := RX8) (T := TX8) (N := 17) hx hb hts hi_X8_told_X8 hown hK.1 hP 0 rfl rfl 4 (by decide) (hts _ k_X8_told_1) (fun _ h9 => h9) rfl dX8_told_44 ?_
      refine lv_iconst (v := (2)) hx hb dX8_told_47 (by decide) ?_
      refine x_iald (v := now 2) hx hb hK hP 5 rfl (vin_lit (by decide)) rfl dX8_told_48 ?_
      refine rd_calli (va_runV (As := [.int i, .int (now 2)]) (rest := []) ⟨hx, hb, hml, hown, hts⟩ (c_X8_price l D ca a rowSizes rows textSizes texts now keeps kept asked upper lower finding findings read at_ costs ways reach i (now 2) _ h) (cwV 2 hts gX8_told_X8_price rfl rfl rfl (by decide +kernel) ⟨Nat.le_of_ble_eq_true rfl, Nat.le_of_ble_eq_true rfl⟩) (PcX.preV (q := (RX8, TX8, 17)) (ci := 7) (q0 := 0) hK hP rfl rfl hP) rfl rfl hl.1 rfl (lv_room (Nat.le_of_ble_eq_true rfl)) dX8_told_49 ⟨Nat.le_of_ble_eq_true rfl, Nat.le_of_ble_eq_true rfl⟩) (fun r1 h => ?_)
      try dsimp only at h
      exact W.iret (v := r1) hx hb hr (fun zt ht hW => ⟨r1, rfl, h, ht⟩) (fun zq hq => absurd hq List.not_mem_nil) dX8_told_52
    · have h := h.2 hc
      refine lv_aload_n hx hb dX8_told_28 rfl (lv_at hl 0 rfl) ?_
      refine va_get (D := D) (ci := 7) (v := .ref (a 5)) (C := RX8) (T := TX8) (N := 17) hx hb hts hi_X8_told_X8 hown hK.1 hP 0 rfl rfl 4 (by decide) (hts _ k_X8_told_1) (fun _ h9 => h9) rfl dX8_told_29 ?_
      refine lv_iconst (v := (2)) hx hb dX8_told_32 (by decide) ?_
      refine x_iald (v := now 2) hx hb hK hP 5 rfl (vin_lit (by decide)) rfl dX8_told_33 ?_
      refine lv_iload_n hx hb dX8_told_34 rfl (lv_at hl 1 rfl) ?_
      refine lv_ishr hx hb dX8_told_35 ?_
      refine lv_iconst (v := (1)) hx hb dX8_told_36 (by decide) ?_
      refine lv_iand hx hb dX8_told_37 ?_
      refine lv_goto (tgt := 52) hx hb dX8_told_38 (by decide) ?_
      exact W.iret (v := ((now 2) >>> (i &&& 31)) &&& (1 : Int32)) hx hb hr (fun zt ht hW => ⟨((now 2) >>> (i &&& 31)) &&& (1 : Int32), rfl, h, ht⟩) (fun zq hq => absurd hq List.not_mem_nil) dX8_told_52
  · have h := h.2 hc
    refine lv_aload_n hx hb dX8_told_6 rfl (lv_at hl 0 rfl) ?_
    refine va_get (D := D) (ci := 7) (v := .ref (a 5)) (C := RX8) (T := TX8) (N := 17) hx hb hts hi_X8_told_X8 hown hK.1 hP 0 rfl rfl 4 (by decide) (hts _ k_X8_told_1) (fun _ h9 => h9) rfl dX8_told_7 ?_
    refine lv_iconst (v := (3)) hx hb dX8_told_10 (by decide) ?_
    refine lv_bipush (v := (12)) hx hb dX8_told_11 (by decide) ?_
    refine lv_iload_n hx hb dX8_told_13 rfl (lv_at hl 2 rfl) ?_
    refine lv_imul hx hb dX8_told_14 ?_
    refine lv_iadd hx hb dX8_told_15 ?_
    refine lv_iload_n hx hb dX8_told_16 rfl (lv_at hl 1 rfl) ?_
    refine lv_iadd hx hb dX8_told_17 ?_
    obtain ⟨hi, h⟩ := h
    refine x_iald (v := now (((3 : Int32) + ((12 : Int32) * what)) + i).toNatClampNeg) hx hb hK hP 5 rfl hi rfl dX8_told_18 ?_
    refine lv_goto (tgt := 52) hx hb dX8_told_19 (by decide) ?_
    exact W.iret (v := now (((3 : Int32) + ((12 : Int32) * what)) + i).toNatClampNeg) hx hb hr (fun zt ht hW => ⟨now (((3 : Int32) + ((12 : Int32) * what)) + i).toNatClampNeg, rfl, h, ht⟩) (fun zq hq => absurd hq List.not_mem_nil) dX8_told_52

-- IronedQuarrelsModel.saying(II)I
def wp_X8_saying (now : Nat → Int32) (asked : Int32) (i : Int32) (what : Int32) (post : Int32 → (Int32) → Prop) : Prop :=
  wp_X8_isSaying now i (fun r1 => (r1 = 0 → (post (-1 : Int32) asked)) ∧ (¬ r1 = 0 → (wp_X8_in what.toInt64 (0 : Int64) (7 : Int64) (fun r2 => (r2 = 0 → (post (-1 : Int32) asked)) ∧ (¬ r2 = 0 → (wp_X8_told now i what (fun r3 => wp_X8_tell r3 (fun r4 asked_5 => post r4 asked_5))))))))
def rm_X8_saying : Room := { frames := 4, cells := 0, slots := 0, locals := 92 }
theorem k_X8_saying_1 : Cond.constantLong RX8 125 (7) ∈ wsX8_saying := List.mem_of_getElem? (i := 1) (by decide +kernel)
theorem hi_X8_saying_X8 : ∀ w ∈ wsX80, w ∈ wsX8_saying := fun w h => List.mem_cons_of_mem _ (List.mem_append_right _ h)
set_option maxHeartbeats 4000000 in
set_option maxRecDepth 100000 in
theorem c_X8_saying (l : Launch) (D : va_G) (ca : Nat → ClassId) (a : Nat → Nat) (rowSizes : Nat → Int32) (rows : Nat → Int32) (textSizes : Nat → Int32) (texts : Nat → Int32) (now : Nat → Int32) (keeps : Nat → Int32) (kept : Nat → Int32) (asked : Int32) (upper : Int64) (lower : Int64) (finding : Int32) (findings : Nat → Int32) (read : Nat → Int32) (at_ : Int32) (costs : Nat → Int32) (ways : Nat → Int64) (reach : Nat → Int32) (i : Int32) (what : Int32) (post : Int32 → (Int32) → Prop) (hd : va_D (fun _ => True) (W_X8 ca a rowSizes rows textSizes texts now keeps kept asked upper lower finding findings read at_ costs ways reach)) (h : wp_X8_saying now asked i what post) : Met l yX8_saying wsX8_saying rm_X8_saying (PcX D ca [.ref (a 0), .int i, .int what] (W_X8 ca a rowSizes rows textSizes texts now keeps kept asked upper lower finding findings read at_ costs ways reach)) (wrI (S := (Int32)) D (W_X8 ca a rowSizes rows textSizes texts now keeps kept asked upper lower finding findings read at_ costs ways reach) (fun zu => W_X8 ca a rowSizes rows textSizes texts now keeps kept zu upper lower finding findings read at_ costs ways reach) (fun zr zu => post zr zu)) 0 0 (adr (W_X8 ca a rowSizes rows textSizes texts now keeps kept asked upper lower finding findings read at_ costs ways reach)) := by
  refine Met.ofW (cc := cX8_saying) (maxL := 3) (ret := (some .int)) (by decide) rfl ?_
  intro zp ze zs zm za zb zt zc z1 B hml hv
  obtain ⟨rfl, hP, hK⟩ := hv
  have hx := B.exec
  have hb := B.bytes
  have hr := B.returns
  have hts := atoms_spec (ws := wsX8_saying) B.pre
  have hown : zs.vm.findClass RX8 = some zm.cls := findClass_of_methodNamed B.named
  have hlocks := B.notSynchronized
  have hD : va_D (adr (W_X8 ca a rowSizes rows textSizes texts now keeps kept asked upper lower finding findings read at_ costs ways reach)) (W_X8 ca a rowSizes rows textSizes texts now keeps kept asked upper lower finding findings read at_ costs ways reach) := hd.adr
  have hS : va_S (adr (W_X8 ca a rowSizes rows textSizes texts now keeps kept asked upper lower finding findings read at_ costs ways reach)) zs.heap zs.heap [] := va_S.rf
  have hl := lv_entry ([.ref (a 0), .int i, .int what]) (n := 3) (Nat.le_of_ble_eq_true rfl)
  rw [lg_entry_eq]
  generalize (lg_sl ([.ref (a 0), .int i, .int what]) ++ List.replicate (3 - (lg_sl ([.ref (a 0), .int i, .int what])).length) Slot.unset).toArray = ls at hl ⊢
  replace hl : lv_has ls 3 [(0, .ref (a 0)), (1, .int i), (2, .int what)] := hl
  show W zp l ze rm_X8_saying zs zm ([.ref (a 0), .int i, .int what] : List Value).toArray zb zt zc zs.heap [] 0 0 (MQ zb (wrI (S := (Int32)) D (W_X8 ca a rowSizes rows textSizes texts now keeps kept asked upper lower finding findings read at_ costs ways reach) (fun zu => W_X8 ca a rowSizes rows textSizes texts now keeps kept zu upper lower finding findings read at_ costs ways reach) (fun zr zu => post zr zu)) ([.ref (a 0), .int i, .int what] : List Value).toArray zs 0 0 (adr (W_X8 ca a rowSizes rows textSizes texts now keeps kept asked upper lower finding findings read at_ costs ways reach))) (F0 zm 0 ls [])
  unfold wp_X8_saying at h
  refine lv_aload_n hx hb dX8_saying_0 rfl (lv_at hl 0 rfl) ?_
  refine lv_iload_n hx hb dX8_saying_1 rfl (lv_at hl 1 rfl) ?_
  refine rd_callz (va_runV (As := [.int i]) (rest := []) ⟨hx, hb, hml, hown, hts⟩ (c_X8_isSaying l D ca a rowSizes rows textSizes texts now keeps kept asked upper lower finding findings read at_ costs ways reach i _ h) (cwV 1 hts gX8_saying_X8_isSaying rfl rfl rfl (by decide +kernel) ⟨Nat.le_of_ble_eq_true rfl, Nat.le_of_ble_eq_true rfl⟩) (PcX.preV (q := (RX8, TX8, 17)) (ci := 7) (q0 := 0) hK hP rfl rfl hP) rfl rfl hl.1 rfl (lv_room (Nat.le_of_ble_eq_true rfl)) dX8_saying_2 ⟨Nat.le_of_ble_eq_true rfl, Nat.le_of_ble_eq_true rfl⟩) (fun r1 h hz_r1 => ?_)
  try dsimp only at h
  refine lv_if_eq (tgt := 33) hx hb dX8_saying_5 (by decide) (fun hc => ?_) (fun hc => ?_)
  · have h := h.1 hc
    refine lv_iconst (v := (-1)) hx hb dX8_saying_33 (by decide) ?_
    exact W.iret (v := (-1 : Int32)) hx hb hr (fun zt ht hW => ⟨⟨(-1 : Int32), asked, rfl, h, by rw [ht]; exact hP⟩, hS.F ht⟩) hS.2.2 dX8_saying_34
  · have h := h.2 hc
    refine lv_iload_n hx hb dX8_saying_8 rfl (lv_at hl 2 rfl) ?_
    refine lv_i2l hx hb dX8_saying_9 rfl ?_
    refine lv_lconst (v := (0)) hx hb dX8_saying_10 (by decide) ?_
    refine lv_ldc2 (v := (7)) hx hb hown (hts _ k_X8_saying_1) dX8_saying_11 ?_
    refine rd_callz (va_runS (As := [.long what.toInt64, .long (0 : Int64), .long (7 : Int64)]) (rest := []) ⟨hx, hb, hml, hown, hts⟩ (c_X8_in l D ca   what.toInt64 (0 : Int64) (7 : Int64) _ h) (va_cwS 3 hts gX8_saying_X8_in rfl rfl rfl (by decide +kernel) ⟨Nat.le_of_ble_eq_true rfl, Nat.le_of_ble_eq_true rfl⟩) (PcX.preS hK (fun zk zq zh => by simp at zh)) rfl rfl hl.1 rfl (lv_room (Nat.le_of_ble_eq_true rfl)) dX8_saying_14 ⟨Nat.le_of_ble_eq_true rfl, Nat.le_of_ble_eq_true rfl⟩) (fun r2 h hz_r2 => ?_)
    try dsimp only at h
    refine lv_if_eq (tgt := 33) hx hb dX8_saying_17 (by decide) (fun hc => ?_) (fun hc => ?_)
    · have h := h.1 hc
      refine lv_iconst (v := (-1)) hx hb dX8_saying_33 (by decide) ?_
      exact W.iret (v := (-1 : Int32)) hx hb hr (fun zt ht hW => ⟨⟨(-1 : Int32), asked, rfl, h, by rw [ht]; exact hP⟩, hS.F ht⟩) hS.2.2 dX8_saying_34
    · have h := h.2 hc
      refine lv_aload_n hx hb dX8_saying_20 rfl (lv_at hl 0 rfl) ?_
      refine lv_aload_n hx hb dX8_saying_21 rfl (lv_at hl 0 rfl) ?_
      refine lv_iload_n hx hb dX8_saying_22 rfl (lv_at hl 1 rfl) ?_
      refine lv_iload_n hx hb dX8_saying_23 rfl (lv_at hl 2 rfl) ?_
      refine rd_calli (va_runV (As := [.int i, .int what]) (rest := [.ref (a 0)]) ⟨hx, hb, hml, hown, hts⟩ (c_X8_told l D ca a rowSizes rows textSizes texts now keeps kept asked upper lower finding findings read at_ costs ways reach i what _ h) (cwV 2 hts gX8_saying_X8_told rfl rfl rfl (by decide +kernel) ⟨Nat.le_of_ble_eq_true rfl, Nat.le_of_ble_eq_true rfl⟩) (PcX.preV (q := (RX8, TX8, 17)) (ci := 7) (q0 := 0) hK hP rfl rfl hP) rfl rfl hl.1 rfl (lv_room (Nat.le_of_ble_eq_true rfl)) dX8_saying_24 ⟨Nat.le_of_ble_eq_true rfl, Nat.le_of_ble_eq_true rfl⟩) (fun r3 h => ?_)
      try dsimp only at h
      refine wr_calli (ws1 := fun zu => W_X8 ca a rowSizes rows textSizes texts now keeps kept zu upper lower finding findings read at_ costs ways reach) (wr := ([] : List Nat).filterMap (fun zi => (W_X8 ca a rowSizes rows textSizes texts now keeps kept asked upper lower finding findings read at_ costs ways reach : va_W)[zi]?)) (n := 13) (va_runV (As := [.int r3]) (rest := []) ⟨hx, hb, hml, hown, hts⟩ (c_X8_tell l D ca a rowSizes rows textSizes texts now keeps kept asked upper lower finding findings read at_ costs ways reach r3 _ (hD.subM [0, 1, 2, 3, 4, 5, 6, 7, 8, 9, 10, 11, 12] (by decide) rfl) h) (cwV 1 hts gX8_saying_X8_tell rfl rfl rfl (by decide +kernel) ⟨Nat.le_of_ble_eq_true rfl, Nat.le_of_ble_eq_true rfl⟩) (PcX.preV (q := (RX8, TX8, 17)) (ci := 7) (q0 := 0) hK hP rfl rfl hP) rfl rfl hl.1 rfl (lv_room (Nat.le_of_ble_eq_true rfl)) dX8_saying_27 ⟨Nat.le_of_ble_eq_true rfl, Nat.le_of_ble_eq_true rfl⟩) hP hD hS [0, 1, 2, 3, 4, 5, 6, 7, 8, 9, 10, 11, 12] [] rfl (fun _ => rfl) rfl (fun _ => rfl) (fun _ => rfl) (fun _ => rfl) (by decide +kernel) (by decide +kernel) (fun r4 zu H locs h hP hD hS => ?_)
      obtain ⟨asked_5, rfl⟩ : ∃ zz, zz = zu := ⟨zu, rfl⟩
      have hP : va_P D vwCl (W_X8 ca a rowSizes rows textSizes texts now keeps kept asked_5 upper lower finding findings read at_ costs ways reach) H := hP
      have hD : va_D _ (W_X8 ca a rowSizes rows textSizes texts now keeps kept asked_5 upper lower finding findings read at_ costs ways reach) := hD
      try dsimp only at h
      refine lv_goto (tgt := 34) hx hb dX8_saying_30 (by decide) ?_
      exact W.iret (v := r4) hx hb hr (fun zt ht hW => ⟨⟨r4, asked_5, rfl, h, by rw [ht]; exact hP⟩, hS.F ht⟩) hS.2.2 dX8_saying_34

-- IronedQuarrelsModel.leansOf(I)I
def wb_X8_leansOf_12 (now : Nat → Int32) (post : Int32 → Prop) (K12 : (Int32) → (Int32) → Prop) (x2 : Int32) (x3 : Int32) : Prop :=
  (x3 = (-9 : Int32) → (post x2)) ∧ (¬ x3 = (-9 : Int32) → (vp_in ((63 : Int32) + x3) 115 ∧ K12 (x2 ||| ((1 : Int32) <<< (x3 &&& 31))) (now ((63 : Int32) + x3).toNatClampNeg)))
def wl_X8_leansOf_12 (now : Nat → Int32) (post : Int32 → Prop) : Nat → (Int32) → (Int32) → Prop
  | 0 => fun _ _ => False
  | zn + 1 => wb_X8_leansOf_12 now post (wl_X8_leansOf_12 now post zn)
def wp_X8_leansOf (now : Nat → Int32) (i : Int32) (post : Int32 → Prop) : Prop :=
  vp_in ((63 : Int32) + i) 115 ∧ ∃ zn, wl_X8_leansOf_12 now post zn (0 : Int32) (now ((63 : Int32) + i).toNatClampNeg)
def rm_X8_leansOf : Room := { frames := 0, cells := 0, slots := 0, locals := 0 }
theorem k_X8_leansOf_1 : Cond.fieldLink RX8 22 "IronedQuarrelsModel" "now" "[I" ∈ wsX8_leansOf := List.mem_of_getElem? (i := 1) (by decide +kernel)
theorem hi_X8_leansOf_X8 : ∀ w ∈ wsX80, w ∈ wsX8_leansOf := fun w h => List.mem_cons_of_mem _ (List.mem_append_right _ h)
set_option maxHeartbeats 4000000 in
set_option maxRecDepth 100000 in
theorem c_X8_leansOf (l : Launch) (D : va_G) (ca : Nat → ClassId) (a : Nat → Nat) (rowSizes : Nat → Int32) (rows : Nat → Int32) (textSizes : Nat → Int32) (texts : Nat → Int32) (now : Nat → Int32) (keeps : Nat → Int32) (kept : Nat → Int32) (asked : Int32) (upper : Int64) (lower : Int64) (finding : Int32) (findings : Nat → Int32) (read : Nat → Int32) (at_ : Int32) (costs : Nat → Int32) (ways : Nat → Int64) (reach : Nat → Int32) (i : Int32) (post : Int32 → Prop) (h : wp_X8_leansOf now i post) : Met l yX8_leansOf wsX8_leansOf rm_X8_leansOf (PcX D ca [.ref (a 0), .int i] (W_X8 ca a rowSizes rows textSizes texts now keeps kept asked upper lower finding findings read at_ costs ways reach)) (rdI post) 0 0 (fun _ => False) := by
  refine Met.ofW (cc := cX8_leansOf) (maxL := 4) (ret := (some .int)) (by decide) rfl ?_
  intro zp ze zs zm za zb zt zc z1 B hml hv
  obtain ⟨rfl, hP, hK⟩ := hv
  have hx := B.exec
  have hb := B.bytes
  have hr := B.returns
  have hts := atoms_spec (ws := wsX8_leansOf) B.pre
  have hown : zs.vm.findClass RX8 = some zm.cls := findClass_of_methodNamed B.named
  have hlocks := B.notSynchronized
  have hl := lv_entry ([.ref (a 0), .int i]) (n := 4) (Nat.le_of_ble_eq_true rfl)
  rw [lg_entry_eq]
  generalize (lg_sl ([.ref (a 0), .int i]) ++ List.replicate (4 - (lg_sl ([.ref (a 0), .int i])).length) Slot.unset).toArray = ls at hl ⊢
  replace hl : lv_has ls 4 [(0, .ref (a 0)), (1, .int i)] := hl
  show W zp l ze rm_X8_leansOf zs zm ([.ref (a 0), .int i] : List Value).toArray zb zt zc zs.heap [] 0 0 (MQ zb (rdI post) ([.ref (a 0), .int i] : List Value).toArray zs 0 0 (fun _ => False)) (F0 zm 0 ls [])
  have w_12 : ∀ (zn : Nat) (x2 : Int32) (x3 : Int32), wl_X8_leansOf_12 now post zn x2 x3 → ∀ ls : Array Slot, lv_has ls 4 [(0, .ref (a 0)), (2, .int x2), (3, .int x3)] → W zp l ze rm_X8_leansOf zs zm ([.ref (a 0), .int i] : List Value).toArray zb zt zc zs.heap [] 0 0 (MQ zb (rdI post) ([.ref (a 0), .int i] : List Value).toArray zs 0 0 (fun _ => False)) (F0 zm 12 ls []) := by
    intro zn
    induction zn with
    | zero => intro x2 x3 h; exact h.elim
    | succ zn ih12 =>
      intro x2 x3 h ls hl
      replace h : wb_X8_leansOf_12 now post (wl_X8_leansOf_12 now post zn) x2 x3 := h
      unfold wb_X8_leansOf_12 at h
      refine lv_iload_n hx hb dX8_leansOf_12 rfl (lv_at hl 2 rfl) ?_
      refine lv_bipush (v := (-9)) hx hb dX8_leansOf_13 (by decide) ?_
      refine lv_icmp_eq (tgt := 37) hx hb dX8_leansOf_15 (by decide) (fun hc => ?_) (fun hc => ?_)
      · have h := h.1 hc
        refine lv_iload_n hx hb dX8_leansOf_37 rfl (lv_at hl 1 rfl) ?_
        exact W.iret (v := x2) hx hb hr (fun zt ht hW => ⟨x2, rfl, h, ht⟩) (fun zq hq => absurd hq List.not_mem_nil) dX8_leansOf_38
      · have h := h.2 hc
        refine lv_iload_n hx hb dX8_leansOf_18 rfl (lv_at hl 1 rfl) ?_
        refine lv_iconst (v := (1)) hx hb dX8_leansOf_19 (by decide) ?_
        refine lv_iload_n hx hb dX8_leansOf_20 rfl (lv_at hl 2 rfl) ?_
        refine lv_ishl hx hb dX8_leansOf_21 ?_
        refine lv_ior hx hb dX8_leansOf_22 ?_
        refine lv_istore_n (lv' := [(2, .int (x2 ||| ((1 : Int32) <<< (x3 &&& 31)))), (0, .ref (a 0)), (3, .int x3)]) hx hb dX8_leansOf_23 rfl hl (by decide) rfl (fun ls hl => ?_)
        refine lv_aload_n hx hb dX8_leansOf_24 rfl (lv_at hl 1 rfl) ?_
        refine va_get (D := D) (ci := 7) (v := .ref (a 5)) (C := RX8) (T := TX8) (N := 17) hx hb hts hi_X8_leansOf_X8 hown hK.1 hP 0 rfl rfl 4 (by decide) (hts _ k_X8_leansOf_1) (fun _ h9 => h9) rfl dX8_leansOf_25 ?_
        refine lv_bipush (v := (63)) hx hb dX8_leansOf_28 (by decide) ?_
        refine lv_iload_n hx hb dX8_leansOf_30 rfl (lv_at hl 2 rfl) ?_
        refine lv_iadd hx hb dX8_leansOf_31 ?_
        obtain ⟨hi, h⟩ := h
        refine x_iald (v := now ((63 : Int32) + x3).toNatClampNeg) hx hb hK hP 5 rfl hi rfl dX8_leansOf_32 ?_
        refine lv_istore_n (lv' := [(3, .int (now ((63 : Int32) + x3).toNatClampNeg)), (2, .int (x2 ||| ((1 : Int32) <<< (x3 &&& 31)))), (0, .ref (a 0))]) hx hb dX8_leansOf_33 rfl hl (by decide) rfl (fun ls hl => ?_)
        refine lv_goto (tgt := 12) hx hb dX8_leansOf_34 (by decide) ?_
        exact ih12 (x2 ||| ((1 : Int32) <<< (x3 &&& 31))) (now ((63 : Int32) + x3).toNatClampNeg) h ls (lv_sub hl [2, 1, 0] rfl)
  unfold wp_X8_leansOf at h
  refine lv_iconst (v := (0)) hx hb dX8_leansOf_0 (by decide) ?_
  refine lv_istore_n (lv' := [(2, .int (0 : Int32)), (0, .ref (a 0)), (1, .int i)]) hx hb dX8_leansOf_1 rfl hl (by decide) rfl (fun ls hl => ?_)
  refine lv_aload_n hx hb dX8_leansOf_2 rfl (lv_at hl 1 rfl) ?_
  refine va_get (D := D) (ci := 7) (v := .ref (a 5)) (C := RX8) (T := TX8) (N := 17) hx hb hts hi_X8_leansOf_X8 hown hK.1 hP 0 rfl rfl 4 (by decide) (hts _ k_X8_leansOf_1) (fun _ h9 => h9) rfl dX8_leansOf_3 ?_
  refine lv_bipush (v := (63)) hx hb dX8_leansOf_6 (by decide) ?_
  refine lv_iload_n hx hb dX8_leansOf_8 rfl (lv_at hl 2 rfl) ?_
  refine lv_iadd hx hb dX8_leansOf_9 ?_
  obtain ⟨hi, h⟩ := h
  refine x_iald (v := now ((63 : Int32) + i).toNatClampNeg) hx hb hK hP 5 rfl hi rfl dX8_leansOf_10 ?_
  refine lv_istore_n (lv' := [(3, .int (now ((63 : Int32) + i).toNatClampNeg)), (2, .int (0 : Int32)), (0, .ref (a 0)), (1, .int i)]) hx hb dX8_leansOf_11 rfl hl (by decide) rfl (fun ls hl => ?_)
  obtain ⟨zn, h⟩ := h
  exact w_12  zn (0 : Int32) (now ((63 : Int32) + i).toNatClampNeg) h ls (lv_sub hl [2, 1, 0] rfl)

-- IronedQuarrelsModel.rootOf(I)I
def wb_X8_rootOf_2 (now : Nat → Int32) (post : Int32 → Prop) (K2 : (Int32) → Prop) (x2 : Int32) : Prop :=
  vp_in ((63 : Int32) + x2) 115 ∧ ((now ((63 : Int32) + x2).toNatClampNeg) = (-9 : Int32) → (post x2)) ∧ (¬ (now ((63 : Int32) + x2).toNatClampNeg) = (-9 : Int32) → (vp_in ((63 : Int32) + x2) 115 ∧ K2 (now ((63 : Int32) + x2).toNatClampNeg)))
def wl_X8_rootOf_2 (now : Nat → Int32) (post : Int32 → Prop) : Nat → (Int32) → Prop
  | 0 => fun _ => False
  | zn + 1 => wb_X8_rootOf_2 now post (wl_X8_rootOf_2 now post zn)
def wp_X8_rootOf (now : Nat → Int32) (i : Int32) (post : Int32 → Prop) : Prop :=
  ∃ zn, wl_X8_rootOf_2 now post zn i
def rm_X8_rootOf : Room := { frames := 0, cells := 0, slots := 0, locals := 0 }
theorem k_X8_rootOf_1 : Cond.fieldLink RX8 22 "IronedQuarrelsModel" "now" "[I" ∈ wsX8_rootOf := List.mem_of_getElem? (i := 1) (by decide +kernel)
theorem hi_X8_rootOf_X8 : ∀ w ∈ wsX80, w ∈ wsX8_rootOf := fun w h => List.mem_cons_of_mem _ (List.mem_append_right _ h)
set_option maxHeartbeats 4000000 in
set_option maxRecDepth 100000 in
theorem c_X8_rootOf (l : Launch) (D : va_G) (ca : Nat → ClassId) (a : Nat → Nat) (rowSizes : Nat → Int32) (rows : Nat → Int32) (textSizes : Nat → Int32) (texts : Nat → Int32) (now : Nat → Int32) (keeps : Nat → Int32) (kept : Nat → Int32) (asked : Int32) (upper : Int64) (lower : Int64) (finding : Int32) (findings : Nat → Int32) (read : Nat → Int32) (at_ : Int32) (costs : Nat → Int32) (ways : Nat → Int64) (reach : Nat → Int32) (i : Int32) (post : Int32 → Prop) (h : wp_X8_rootOf now i post) : Met l yX8_rootOf wsX8_rootOf rm_X8_rootOf (PcX D ca [.ref (a 0), .int i] (W_X8 ca a rowSizes rows textSizes texts now keeps kept asked upper lower finding findings read at_ costs ways reach)) (rdI post) 0 0 (fun _ => False) := by
  refine Met.ofW (cc := cX8_rootOf) (maxL := 3) (ret := (some .int)) (by decide) rfl ?_
  intro zp ze zs zm za zb zt zc z1 B hml hv
  obtain ⟨rfl, hP, hK⟩ := hv
  have hx := B.exec
  have hb := B.bytes
  have hr := B.returns
  have hts := atoms_spec (ws := wsX8_rootOf) B.pre
  have hown : zs.vm.findClass RX8 = some zm.cls := findClass_of_methodNamed B.named
  have hlocks := B.notSynchronized
  have hl := lv_entry ([.ref (a 0), .int i]) (n := 3) (Nat.le_of_ble_eq_true rfl)
  rw [lg_entry_eq]
  generalize (lg_sl ([.ref (a 0), .int i]) ++ List.replicate (3 - (lg_sl ([.ref (a 0), .int i])).length) Slot.unset).toArray = ls at hl ⊢
  replace hl : lv_has ls 3 [(0, .ref (a 0)), (1, .int i)] := hl
  show W zp l ze rm_X8_rootOf zs zm ([.ref (a 0), .int i] : List Value).toArray zb zt zc zs.heap [] 0 0 (MQ zb (rdI post) ([.ref (a 0), .int i] : List Value).toArray zs 0 0 (fun _ => False)) (F0 zm 0 ls [])
  have w_2 : ∀ (zn : Nat) (x2 : Int32), wl_X8_rootOf_2 now post zn x2 → ∀ ls : Array Slot, lv_has ls 3 [(0, .ref (a 0)), (2, .int x2)] → W zp l ze rm_X8_rootOf zs zm ([.ref (a 0), .int i] : List Value).toArray zb zt zc zs.heap [] 0 0 (MQ zb (rdI post) ([.ref (a 0), .int i] : List Value).toArray zs 0 0 (fun _ => False)) (F0 zm 2 ls []) := by
    intro zn
    induction zn with
    | zero => intro x2 h; exact h.elim
    | succ zn ih2 =>
      intro x2 h ls hl
      replace h : wb_X8_rootOf_2 now post (wl_X8_rootOf_2 now post zn) x2 := h
      unfold wb_X8_rootOf_2 at h
      refine lv_aload_n hx hb dX8_rootOf_2 rfl (lv_at hl 0 rfl) ?_
      refine va_get (D := D) (ci := 7) (v := .ref (a 5)) (C := RX8) (T := TX8) (N := 17) hx hb hts hi_X8_rootOf_X8 hown hK.1 hP 0 rfl rfl 4 (by decide) (hts _ k_X8_rootOf_1) (fun _ h9 => h9) rfl dX8_rootOf_3 ?_
      refine lv_bipush (v := (63)) hx hb dX8_rootOf_6 (by decide) ?_
      refine lv_iload_n hx hb dX8_rootOf_8 rfl (lv_at hl 1 rfl) ?_
      refine lv_iadd hx hb dX8_rootOf_9 ?_
      obtain ⟨hi, h⟩ := h
      refine x_iald (v := now ((63 : Int32) + x2).toNatClampNeg) hx hb hK hP 5 rfl hi rfl dX8_rootOf_10 ?_
      refine lv_bipush (v := (-9)) hx hb dX8_rootOf_11 (by decide) ?_
      refine lv_icmp_eq (tgt := 29) hx hb dX8_rootOf_13 (by decide) (fun hc => ?_) (fun hc => ?_)
      · have h := h.1 hc
        refine lv_iload_n hx hb dX8_rootOf_29 rfl (lv_at hl 1 rfl) ?_
        exact W.iret (v := x2) hx hb hr (fun zt ht hW => ⟨x2, rfl, h, ht⟩) (fun zq hq => absurd hq List.not_mem_nil) dX8_rootOf_30
      · have h := h.2 hc
        refine lv_aload_n hx hb dX8_rootOf_16 rfl (lv_at hl 0 rfl) ?_
        refine va_get (D := D) (ci := 7) (v := .ref (a 5)) (C := RX8) (T := TX8) (N := 17) hx hb hts hi_X8_rootOf_X8 hown hK.1 hP 0 rfl rfl 4 (by decide) (hts _ k_X8_rootOf_1) (fun _ h9 => h9) rfl dX8_rootOf_17 ?_
        refine lv_bipush (v := (63)) hx hb dX8_rootOf_20 (by decide) ?_
        refine lv_iload_n hx hb dX8_rootOf_22 rfl (lv_at hl 1 rfl) ?_
        refine lv_iadd hx hb dX8_rootOf_23 ?_
        obtain ⟨hi, h⟩ := h
        refine x_iald (v := now ((63 : Int32) + x2).toNatClampNeg) hx hb hK hP 5 rfl hi rfl dX8_rootOf_24 ?_
        refine lv_istore_n (lv' := [(2, .int (now ((63 : Int32) + x2).toNatClampNeg)), (0, .ref (a 0))]) hx hb dX8_rootOf_25 rfl hl (by decide) rfl (fun ls hl => ?_)
        refine lv_goto (tgt := 2) hx hb dX8_rootOf_26 (by decide) ?_
        exact ih2 (now ((63 : Int32) + x2).toNatClampNeg) h ls (lv_sub hl [1, 0] rfl)
  unfold wp_X8_rootOf at h
  refine lv_iload_n hx hb dX8_rootOf_0 rfl (lv_at hl 1 rfl) ?_
  refine lv_istore_n (lv' := [(2, .int i), (0, .ref (a 0)), (1, .int i)]) hx hb dX8_rootOf_1 rfl hl (by decide) rfl (fun ls hl => ?_)
  obtain ⟨zn, h⟩ := h
  exact w_2  zn i h ls (lv_sub hl [1, 0] rfl)

-- IronedQuarrelsModel.handsOf(I)I
def wb_X8_handsOf_85 (post : Int32 → Prop) (x3 : Int32) (s0 : Int32) (s1 : Int32) : Prop :=
  post (x3 &&& ((s1 ||| s0) ^^^ (-1 : Int32)))
def wb_X8_handsOf_26 (now : Nat → Int32) (i : Int32) (post : Int32 → Prop) (K26 : (Int32) → (Int32) → (Int32) → Prop) (x2 : Int32) (x3 : Int32) (x4 : Int32) : Prop :=
  (i ≤ x4 → (vp_in ((27 : Int32) + i) 115 ∧ (¬ x2 = (-9 : Int32) → (vp_in ((15 : Int32) + x2) 115 ∧ wb_X8_handsOf_85 post x3 ((1 : Int32) <<< ((now ((15 : Int32) + x2).toNatClampNeg) &&& 31)) ((1 : Int32) <<< ((now ((27 : Int32) + i).toNatClampNeg) &&& 31)))) ∧ (x2 = (-9 : Int32) → (wb_X8_handsOf_85 post x3 (0 : Int32) ((1 : Int32) <<< ((now ((27 : Int32) + i).toNatClampNeg) &&& 31)))))) ∧ (¬ i ≤ x4 → (vp_in ((27 : Int32) + x4) 115 ∧ K26 x2 (x3 ||| ((1 : Int32) <<< ((now ((27 : Int32) + x4).toNatClampNeg) &&& 31))) (x4 + 1)))
def wl_X8_handsOf_26 (now : Nat → Int32) (i : Int32) (post : Int32 → Prop) : Nat → (Int32) → (Int32) → (Int32) → Prop
  | 0 => fun _ _ _ => False
  | zn + 1 => wb_X8_handsOf_26 now i post (wl_X8_handsOf_26 now i post zn)
def wp_X8_handsOf (now : Nat → Int32) (i : Int32) (post : Int32 → Prop) : Prop :=
  vp_in ((63 : Int32) + i) 115 ∧ (¬ (now ((63 : Int32) + i).toNatClampNeg) = (-9 : Int32) → (∃ zn, wl_X8_handsOf_26 now i post zn (now ((63 : Int32) + i).toNatClampNeg) (0 : Int32) (0 : Int32))) ∧ ((now ((63 : Int32) + i).toNatClampNeg) = (-9 : Int32) → (∃ zn, wl_X8_handsOf_26 now i post zn (now ((63 : Int32) + i).toNatClampNeg) (63 : Int32) (0 : Int32)))
def rm_X8_handsOf : Room := { frames := 0, cells := 0, slots := 0, locals := 0 }
theorem k_X8_handsOf_1 : Cond.fieldLink RX8 22 "IronedQuarrelsModel" "now" "[I" ∈ wsX8_handsOf := List.mem_of_getElem? (i := 1) (by decide +kernel)
theorem hi_X8_handsOf_X8 : ∀ w ∈ wsX80, w ∈ wsX8_handsOf := fun w h => List.mem_cons_of_mem _ (List.mem_append_right _ h)
set_option maxHeartbeats 4000000 in
set_option maxRecDepth 100000 in
theorem c_X8_handsOf (l : Launch) (D : va_G) (ca : Nat → ClassId) (a : Nat → Nat) (rowSizes : Nat → Int32) (rows : Nat → Int32) (textSizes : Nat → Int32) (texts : Nat → Int32) (now : Nat → Int32) (keeps : Nat → Int32) (kept : Nat → Int32) (asked : Int32) (upper : Int64) (lower : Int64) (finding : Int32) (findings : Nat → Int32) (read : Nat → Int32) (at_ : Int32) (costs : Nat → Int32) (ways : Nat → Int64) (reach : Nat → Int32) (i : Int32) (post : Int32 → Prop) (h : wp_X8_handsOf now i post) : Met l yX8_handsOf wsX8_handsOf rm_X8_handsOf (PcX D ca [.ref (a 0), .int i] (W_X8 ca a rowSizes rows textSizes texts now keeps kept asked upper lower finding findings read at_ costs ways reach)) (rdI post) 0 0 (fun _ => False) := by
  refine Met.ofW (cc := cX8_handsOf) (maxL := 5) (ret := (some .int)) (by decide) rfl ?_
  intro zp ze zs zm za zb zt zc z1 B hml hv
  obtain ⟨rfl, hP, hK⟩ := hv
  have hx := B.exec
  have hb := B.bytes
  have hr := B.returns
  have hts := atoms_spec (ws := wsX8_handsOf) B.pre
  have hown : zs.vm.findClass RX8 = some zm.cls := findClass_of_methodNamed B.named
  have hlocks := B.notSynchronized
  have hl := lv_entry ([.ref (a 0), .int i]) (n := 5) (Nat.le_of_ble_eq_true rfl)
  rw [lg_entry_eq]
  generalize (lg_sl ([.ref (a 0), .int i]) ++ List.replicate (5 - (lg_sl ([.ref (a 0), .int i])).length) Slot.unset).toArray = ls at hl ⊢
  replace hl : lv_has ls 5 [(0, .ref (a 0)), (1, .int i)] := hl
  show W zp l ze rm_X8_handsOf zs zm ([.ref (a 0), .int i] : List Value).toArray zb zt zc zs.heap [] 0 0 (MQ zb (rdI post) ([.ref (a 0), .int i] : List Value).toArray zs 0 0 (fun _ => False)) (F0 zm 0 ls [])
  have w_85 : ∀ (x3 : Int32) (s0 : Int32) (s1 : Int32), wb_X8_handsOf_85 post x3 s0 s1 → ∀ ls : Array Slot, lv_has ls 5 [(3, .int x3)] → W zp l ze rm_X8_handsOf zs zm ([.ref (a 0), .int i] : List Value).toArray zb zt zc zs.heap [] 0 0 (MQ zb (rdI post) ([.ref (a 0), .int i] : List Value).toArray zs 0 0 (fun _ => False)) (F0 zm 85 ls [.int s0, .int s1]) := by
    intro x3 s0 s1 h ls hl
    unfold wb_X8_handsOf_85 at h
    refine lv_ior hx hb dX8_handsOf_85 ?_
    refine lv_istore (lv' := [(4, .int (s1 ||| s0)), (3, .int x3)]) hx hb dX8_handsOf_86 hl (by decide) rfl (fun ls hl => ?_)
    refine lv_iload_n hx hb dX8_handsOf_88 rfl (lv_at hl 1 rfl) ?_
    refine lv_iload hx hb dX8_handsOf_89 (lv_at hl 0 rfl) ?_
    refine lv_iconst (v := (-1)) hx hb dX8_handsOf_91 (by decide) ?_
    refine lv_ixor hx hb dX8_handsOf_92 ?_
    refine lv_iand hx hb dX8_handsOf_93 ?_
    exact W.iret (v := x3 &&& ((s1 ||| s0) ^^^ (-1 : Int32))) hx hb hr (fun zt ht hW => ⟨x3 &&& ((s1 ||| s0) ^^^ (-1 : Int32)), rfl, h, ht⟩) (fun zq hq => absurd hq List.not_mem_nil) dX8_handsOf_94
  have w_26 : ∀ (zn : Nat) (x2 : Int32) (x3 : Int32) (x4 : Int32), wl_X8_handsOf_26 now i post zn x2 x3 x4 → ∀ ls : Array Slot, lv_has ls 5 [(0, .ref (a 0)), (1, .int i), (2, .int x2), (3, .int x3), (4, .int x4)] → W zp l ze rm_X8_handsOf zs zm ([.ref (a 0), .int i] : List Value).toArray zb zt zc zs.heap [] 0 0 (MQ zb (rdI post) ([.ref (a 0), .int i] : List Value).toArray zs 0 0 (fun _ => False)) (F0 zm 26 ls []) := by
    intro zn
    induction zn with
    | zero => intro x2 x3 x4 h; exact h.elim
    | succ zn ih26 =>
      intro x2 x3 x4 h ls hl
      replace h : wb_X8_handsOf_26 now i post (wl_X8_handsOf_26 now i post zn) x2 x3 x4 := h
      unfold wb_X8_handsOf_26 at h
      refine lv_iload hx hb dX8_handsOf_26 (lv_at hl 4 rfl) ?_
      refine lv_iload_n hx hb dX8_handsOf_28 rfl (lv_at hl 1 rfl) ?_
      refine lv_icmp_ge (tgt := 53) hx hb dX8_handsOf_29 (by decide) (fun hc => ?_) (fun hc => ?_)
      · have h := h.1 hc
        refine lv_iconst (v := (1)) hx hb dX8_handsOf_53 (by decide) ?_
        refine lv_aload_n hx hb dX8_handsOf_54 rfl (lv_at hl 0 rfl) ?_
        refine va_get (D := D) (ci := 7) (v := .ref (a 5)) (C := RX8) (T := TX8) (N := 17) hx hb hts hi_X8_handsOf_X8 hown hK.1 hP 0 rfl rfl 4 (by decide) (hts _ k_X8_handsOf_1) (fun _ h9 => h9) rfl dX8_handsOf_55 ?_
        refine lv_bipush (v := (27)) hx hb dX8_handsOf_58 (by decide) ?_
        refine lv_iload_n hx hb dX8_handsOf_60 rfl (lv_at hl 1 rfl) ?_
        refine lv_iadd hx hb dX8_handsOf_61 ?_
        obtain ⟨hi, h⟩ := h
        refine x_iald (v := now ((27 : Int32) + i).toNatClampNeg) hx hb hK hP 5 rfl hi rfl dX8_handsOf_62 ?_
        refine lv_ishl hx hb dX8_handsOf_63 ?_
        refine lv_iload_n hx hb dX8_handsOf_64 rfl (lv_at hl 2 rfl) ?_
        refine lv_bipush (v := (-9)) hx hb dX8_handsOf_65 (by decide) ?_
        refine lv_icmp_ne (tgt := 74) hx hb dX8_handsOf_67 (by decide) (fun hc => ?_) (fun hc => ?_)
        · have h := h.1 hc
          refine lv_iconst (v := (1)) hx hb dX8_handsOf_74 (by decide) ?_
          refine lv_aload_n hx hb dX8_handsOf_75 rfl (lv_at hl 0 rfl) ?_
          refine va_get (D := D) (ci := 7) (v := .ref (a 5)) (C := RX8) (T := TX8) (N := 17) hx hb hts hi_X8_handsOf_X8 hown hK.1 hP 0 rfl rfl 4 (by decide) (hts _ k_X8_handsOf_1) (fun _ h9 => h9) rfl dX8_handsOf_76 ?_
          refine lv_bipush (v := (15)) hx hb dX8_handsOf_79 (by decide) ?_
          refine lv_iload_n hx hb dX8_handsOf_81 rfl (lv_at hl 2 rfl) ?_
          refine lv_iadd hx hb dX8_handsOf_82 ?_
          obtain ⟨hi, h⟩ := h
          refine x_iald (v := now ((15 : Int32) + x2).toNatClampNeg) hx hb hK hP 5 rfl hi rfl dX8_handsOf_83 ?_
          refine lv_ishl hx hb dX8_handsOf_84 ?_
          exact w_85  x3 ((1 : Int32) <<< ((now ((15 : Int32) + x2).toNatClampNeg) &&& 31)) ((1 : Int32) <<< ((now ((27 : Int32) + i).toNatClampNeg) &&& 31)) h ls (lv_sub hl [3] rfl)
        · have h := h.2 hc
          refine lv_iconst (v := (0)) hx hb dX8_handsOf_70 (by decide) ?_
          refine lv_goto (tgt := 85) hx hb dX8_handsOf_71 (by decide) ?_
          exact w_85  x3 (0 : Int32) ((1 : Int32) <<< ((now ((27 : Int32) + i).toNatClampNeg) &&& 31)) h ls (lv_sub hl [3] rfl)
      · have h := h.2 hc
        refine lv_iload_n hx hb dX8_handsOf_32 rfl (lv_at hl 3 rfl) ?_
        refine lv_iconst (v := (1)) hx hb dX8_handsOf_33 (by decide) ?_
        refine lv_aload_n hx hb dX8_handsOf_34 rfl (lv_at hl 0 rfl) ?_
        refine va_get (D := D) (ci := 7) (v := .ref (a 5)) (C := RX8) (T := TX8) (N := 17) hx hb hts hi_X8_handsOf_X8 hown hK.1 hP 0 rfl rfl 4 (by decide) (hts _ k_X8_handsOf_1) (fun _ h9 => h9) rfl dX8_handsOf_35 ?_
        refine lv_bipush (v := (27)) hx hb dX8_handsOf_38 (by decide) ?_
        refine lv_iload hx hb dX8_handsOf_40 (lv_at hl 4 rfl) ?_
        refine lv_iadd hx hb dX8_handsOf_42 ?_
        obtain ⟨hi, h⟩ := h
        refine x_iald (v := now ((27 : Int32) + x4).toNatClampNeg) hx hb hK hP 5 rfl hi rfl dX8_handsOf_43 ?_
        refine lv_ishl hx hb dX8_handsOf_44 ?_
        refine lv_ior hx hb dX8_handsOf_45 ?_
        refine lv_istore_n (lv' := [(3, .int (x3 ||| ((1 : Int32) <<< ((now ((27 : Int32) + x4).toNatClampNeg) &&& 31)))), (0, .ref (a 0)), (1, .int i), (2, .int x2), (4, .int x4)]) hx hb dX8_handsOf_46 rfl hl (by decide) rfl (fun ls hl => ?_)
        refine lv_iinc (v := x4 + 1) (lv' := [(4, .int (x4 + 1)), (3, .int (x3 ||| ((1 : Int32) <<< ((now ((27 : Int32) + x4).toNatClampNeg) &&& 31)))), (0, .ref (a 0)), (1, .int i), (2, .int x2)]) hx hb dX8_handsOf_47 hl (k := 4) rfl rfl (by decide) rfl (fun ls hl => ?_)
        refine lv_goto (tgt := 26) hx hb dX8_handsOf_50 (by decide) ?_
        exact ih26 x2 (x3 ||| ((1 : Int32) <<< ((now ((27 : Int32) + x4).toNatClampNeg) &&& 31))) (x4 + 1) h ls (lv_sub hl [2, 3, 4, 1, 0] rfl)
  unfold wp_X8_handsOf at h
  refine lv_aload_n hx hb dX8_handsOf_0 rfl (lv_at hl 0 rfl) ?_
  refine va_get (D := D) (ci := 7) (v := .ref (a 5)) (C := RX8) (T := TX8) (N := 17) hx hb hts hi_X8_handsOf_X8 hown hK.1 hP 0 rfl rfl 4 (by decide) (hts _ k_X8_handsOf_1) (fun _ h9 => h9) rfl dX8_handsOf_1 ?_
  refine lv_bipush (v := (63)) hx hb dX8_handsOf_4 (by decide) ?_
  refine lv_iload_n hx hb dX8_handsOf_6 rfl (lv_at hl 1 rfl) ?_
  refine lv_iadd hx hb dX8_handsOf_7 ?_
  obtain ⟨hi, h⟩ := h
  refine x_iald (v := now ((63 : Int32) + i).toNatClampNeg) hx hb hK hP 5 rfl hi rfl dX8_handsOf_8 ?_
  refine lv_istore_n (lv' := [(2, .int (now ((63 : Int32) + i).toNatClampNeg)), (0, .ref (a 0)), (1, .int i)]) hx hb dX8_handsOf_9 rfl hl (by decide) rfl (fun ls hl => ?_)
  refine lv_iload_n hx hb dX8_handsOf_10 rfl (lv_at hl 0 rfl) ?_
  refine lv_bipush (v := (-9)) hx hb dX8_handsOf_11 (by decide) ?_
  refine lv_icmp_ne (tgt := 21) hx hb dX8_handsOf_13 (by decide) (fun hc => ?_) (fun hc => ?_)
  · have h := h.1 hc
    refine lv_iconst (v := (0)) hx hb dX8_handsOf_21 (by decide) ?_
    refine lv_istore_n (lv' := [(3, .int (0 : Int32)), (2, .int (now ((63 : Int32) + i).toNatClampNeg)), (0, .ref (a 0)), (1, .int i)]) hx hb dX8_handsOf_22 rfl hl (by decide) rfl (fun ls hl => ?_)
    refine lv_iconst (v := (0)) hx hb dX8_handsOf_23 (by decide) ?_
    refine lv_istore (lv' := [(4, .int (0 : Int32)), (3, .int (0 : Int32)), (2, .int (now ((63 : Int32) + i).toNatClampNeg)), (0, .ref (a 0)), (1, .int i)]) hx hb dX8_handsOf_24 hl (by decide) rfl (fun ls hl => ?_)
    obtain ⟨zn, h⟩ := h
    exact w_26  zn (now ((63 : Int32) + i).toNatClampNeg) (0 : Int32) (0 : Int32) h ls (lv_sub hl [3, 4, 2, 1, 0] rfl)
  · have h := h.2 hc
    refine lv_bipush (v := (63)) hx hb dX8_handsOf_16 (by decide) ?_
    refine lv_goto (tgt := 22) hx hb dX8_handsOf_18 (by decide) ?_
    refine lv_istore_n (lv' := [(3, .int (63 : Int32)), (2, .int (now ((63 : Int32) + i).toNatClampNeg)), (0, .ref (a 0)), (1, .int i)]) hx hb dX8_handsOf_22 rfl hl (by decide) rfl (fun ls hl => ?_)
    refine lv_iconst (v := (0)) hx hb dX8_handsOf_23 (by decide) ?_
    refine lv_istore (lv' := [(4, .int (0 : Int32)), (3, .int (63 : Int32)), (2, .int (now ((63 : Int32) + i).toNatClampNeg)), (0, .ref (a 0)), (1, .int i)]) hx hb dX8_handsOf_24 hl (by decide) rfl (fun ls hl => ?_)
    obtain ⟨zn, h⟩ := h
    exact w_26  zn (now ((63 : Int32) + i).toNatClampNeg) (63 : Int32) (0 : Int32) h ls (lv_sub hl [3, 4, 2, 1, 0] rfl)

-- IronedQuarrelsModel.mark(II)I
def wb_X8_mark_150 (now : Nat → Int32) (i : Int32) (post : Int32 → (Int32) → (Nat → Int32) → Prop) (K150 : (Int32) → (Nat → Int32) → (Int32) → (Int32) → Prop) (finding : Int32) (findings : Nat → Int32) (x3 : Int32) (x4 : Int32) : Prop :=
  ((now 0) ≤ x4 → (post x3 finding findings)) ∧ (¬ (now 0) ≤ x4 → (wp_X8_rootOf now x4 (fun r10 => wp_X8_rootOf now i (fun r11 => (¬ r10 = r11 → (K150 finding findings (x3 + (0 : Int32)) (x4 + 1))) ∧ (r10 = r11 → (vp_in ((39 : Int32) + x4) 115 ∧ vp_in ((39 : Int32) + i) 115 ∧ (¬ (now ((39 : Int32) + x4).toNatClampNeg) = (now ((39 : Int32) + i).toNatClampNeg) → (K150 finding findings (x3 + (0 : Int32)) (x4 + 1))) ∧ ((now ((39 : Int32) + x4).toNatClampNeg) = (now ((39 : Int32) + i).toNatClampNeg) → (K150 finding findings (x3 + (1 : Int32)) (x4 + 1)))))))))
def wl_X8_mark_150 (now : Nat → Int32) (i : Int32) (post : Int32 → (Int32) → (Nat → Int32) → Prop) : Nat → (Int32) → (Nat → Int32) → (Int32) → (Int32) → Prop
  | 0 => fun _ _ _ _ => False
  | zn + 1 => wb_X8_mark_150 now i post (wl_X8_mark_150 now i post zn)
def wp_X8_mark (now : Nat → Int32) (finding : Int32) (findings : Nat → Int32) (i : Int32) (kind : Int32) (post : Int32 → (Int32) → (Nat → Int32) → Prop) : Prop :=
  wp_X8_isSaying now i (fun r1 => (r1 = 0 → (post (-1 : Int32) finding findings)) ∧ (¬ r1 = 0 → (wp_X8_in kind.toInt64 (1 : Int64) (5 : Int64) (fun r2 => (¬ r2 = 0 → (vp_in ((3 : Int32) + i) 115 ∧ wp_X8_isOf (now ((3 : Int32) + i).toNatClampNeg) kind (fun r3 => (¬ r3 = 0 → ((kind = 1 → (wp_X8_heat now i (((1 : Int32) <<< (i &&& 31)) - (1 : Int32)) (fun r4 => post r4 finding findings))) ∧ (kind = 2 → (wp_X8_handsOf now i (fun r5 => wp_X8_bits r5 (fun r6 => post r6 finding findings)))) ∧ (kind = 3 → (wp_X8_price now i (now 2) (fun r7 => wp_X8_heat now i (now 2) (fun r8 => vp_in ((51 : Int32) + i) 115 ∧ post (((r7 - r8) - (now ((51 : Int32) + i).toNatClampNeg)) + (100 : Int32)) finding findings)))) ∧ (kind = 4 → (wp_X8_answering now i (now 2) (fun r9 => post r9 finding findings))) ∧ (¬ kind = 1 → ¬ kind = 2 → ¬ kind = 3 → ¬ kind = 4 → (∃ zn, wl_X8_mark_150 now i post zn finding findings (0 : Int32) (0 : Int32))))) ∧ (r3 = 0 → (wp_X8_found findings (3 : Int32) (fun r12 finding_13 findings_14 => post r12 finding_13 findings_14)))))) ∧ (r2 = 0 → (post (-1 : Int32) finding findings))))))
def rm_X8_mark : Room := { frames := 3, cells := 0, slots := 0, locals := 70 }
theorem k_X8_mark_1 : Cond.constantLong RX8 59 (5) ∈ wsX8_mark := List.mem_of_getElem? (i := 1) (by decide +kernel)
theorem k_X8_mark_2 : Cond.fieldLink RX8 22 "IronedQuarrelsModel" "now" "[I" ∈ wsX8_mark := List.mem_of_getElem? (i := 2) (by decide +kernel)
theorem hi_X8_mark_X8 : ∀ w ∈ wsX80, w ∈ wsX8_mark := fun w h => List.mem_cons_of_mem _ (List.mem_append_right _ h)
set_option maxHeartbeats 4000000 in
set_option maxRecDepth 100000 in
theorem c_X8_mark (l : Launch) (D : va_G) (ca : Nat → ClassId) (a : Nat → Nat) (rowSizes : Nat → Int32) (rows : Nat → Int32) (textSizes : Nat → Int32) (texts : Nat → Int32) (now : Nat → Int32) (keeps : Nat → Int32) (kept : Nat → Int32) (asked : Int32) (upper : Int64) (lower : Int64) (finding : Int32) (findings : Nat → Int32) (read : Nat → Int32) (at_ : Int32) (costs : Nat → Int32) (ways : Nat → Int64) (reach : Nat → Int32) (i : Int32) (kind : Int32) (post : Int32 → (Int32) → (Nat → Int32) → Prop) (hd : va_D (fun _ => True) (W_X8 ca a rowSizes rows textSizes texts now keeps kept asked upper lower finding findings read at_ costs ways reach)) (h : wp_X8_mark now finding findings i kind post) : Met l yX8_mark wsX8_mark rm_X8_mark (PcX D ca [.ref (a 0), .int i, .int kind] (W_X8 ca a rowSizes rows textSizes texts now keeps kept asked upper lower finding findings read at_ costs ways reach)) (wrI (S := (Int32) × (Nat → Int32)) D (W_X8 ca a rowSizes rows textSizes texts now keeps kept asked upper lower finding findings read at_ costs ways reach) (fun zu => W_X8 ca a rowSizes rows textSizes texts now keeps kept asked upper lower zu.1 zu.2 read at_ costs ways reach) (fun zr zu => post zr zu.1 zu.2)) 0 0 (adr (W_X8 ca a rowSizes rows textSizes texts now keeps kept asked upper lower finding findings read at_ costs ways reach)) := by
  refine Met.ofW (cc := cX8_mark) (maxL := 5) (ret := (some .int)) (by decide) rfl ?_
  intro zp ze zs zm za zb zt zc z1 B hml hv
  obtain ⟨rfl, hP, hK⟩ := hv
  have hx := B.exec
  have hb := B.bytes
  have hr := B.returns
  have hts := atoms_spec (ws := wsX8_mark) B.pre
  have hown : zs.vm.findClass RX8 = some zm.cls := findClass_of_methodNamed B.named
  have hlocks := B.notSynchronized
  have hD : va_D (adr (W_X8 ca a rowSizes rows textSizes texts now keeps kept asked upper lower finding findings read at_ costs ways reach)) (W_X8 ca a rowSizes rows textSizes texts now keeps kept asked upper lower finding findings read at_ costs ways reach) := hd.adr
  have hS : va_S (adr (W_X8 ca a rowSizes rows textSizes texts now keeps kept asked upper lower finding findings read at_ costs ways reach)) zs.heap zs.heap [] := va_S.rf
  have hl := lv_entry ([.ref (a 0), .int i, .int kind]) (n := 5) (Nat.le_of_ble_eq_true rfl)
  rw [lg_entry_eq]
  generalize (lg_sl ([.ref (a 0), .int i, .int kind]) ++ List.replicate (5 - (lg_sl ([.ref (a 0), .int i, .int kind])).length) Slot.unset).toArray = ls at hl ⊢
  replace hl : lv_has ls 5 [(0, .ref (a 0)), (1, .int i), (2, .int kind)] := hl
  show W zp l ze rm_X8_mark zs zm ([.ref (a 0), .int i, .int kind] : List Value).toArray zb zt zc zs.heap [] 0 0 (MQ zb (wrI (S := (Int32) × (Nat → Int32)) D (W_X8 ca a rowSizes rows textSizes texts now keeps kept asked upper lower finding findings read at_ costs ways reach) (fun zu => W_X8 ca a rowSizes rows textSizes texts now keeps kept asked upper lower zu.1 zu.2 read at_ costs ways reach) (fun zr zu => post zr zu.1 zu.2)) ([.ref (a 0), .int i, .int kind] : List Value).toArray zs 0 0 (adr (W_X8 ca a rowSizes rows textSizes texts now keeps kept asked upper lower finding findings read at_ costs ways reach))) (F0 zm 0 ls [])
  have w_150 : ∀ (zn : Nat) (finding : Int32) (findings : Nat → Int32) (x3 : Int32) (x4 : Int32), wl_X8_mark_150 now i post zn finding findings x3 x4 → ∀ (H : Heap) (locs : List Loc), va_P D vwCl (W_X8 ca a rowSizes rows textSizes texts now keeps kept asked upper lower finding findings read at_ costs ways reach) H → va_D (adr (W_X8 ca a rowSizes rows textSizes texts now keeps kept asked upper lower finding findings read at_ costs ways reach)) (W_X8 ca a rowSizes rows textSizes texts now keeps kept asked upper lower finding findings read at_ costs ways reach) → va_S (adr (W_X8 ca a rowSizes rows textSizes texts now keeps kept asked upper lower finding findings read at_ costs ways reach)) zs.heap H locs → ∀ ls : Array Slot, lv_has ls 5 [(0, .ref (a 0)), (1, .int i), (3, .int x3), (4, .int x4)] → W zp l ze rm_X8_mark zs zm ([.ref (a 0), .int i, .int kind] : List Value).toArray zb zt zc H locs 0 0 (MQ zb (wrI (S := (Int32) × (Nat → Int32)) D (W_X8 ca a rowSizes rows textSizes texts now keeps kept asked upper lower finding findings read at_ costs ways reach) (fun zu => W_X8 ca a rowSizes rows textSizes texts now keeps kept asked upper lower zu.1 zu.2 read at_ costs ways reach) (fun zr zu => post zr zu.1 zu.2)) ([.ref (a 0), .int i, .int kind] : List Value).toArray zs 0 0 (adr (W_X8 ca a rowSizes rows textSizes texts now keeps kept asked upper lower finding findings read at_ costs ways reach))) (F0 zm 150 ls []) := by
    intro zn
    induction zn with
    | zero => intro finding findings x3 x4 h; exact h.elim
    | succ zn ih150 =>
      intro finding findings x3 x4 h H locs hP hD hS ls hl
      replace h : wb_X8_mark_150 now i post (wl_X8_mark_150 now i post zn) finding findings x3 x4 := h
      unfold wb_X8_mark_150 at h
      refine lv_iload hx hb dX8_mark_150 (lv_at hl 3 rfl) ?_
      refine lv_aload_n hx hb dX8_mark_152 rfl (lv_at hl 0 rfl) ?_
      refine va_get (D := D) (ci := 7) (v := .ref (a 5)) (C := RX8) (T := TX8) (N := 17) hx hb hts hi_X8_mark_X8 hown hK.1 hP 0 rfl rfl 4 (by decide) (hts _ k_X8_mark_2) (fun _ h9 => h9) rfl dX8_mark_153 ?_
      refine lv_iconst (v := (0)) hx hb dX8_mark_156 (by decide) ?_
      refine x_iald (v := now 0) hx hb hK hP 5 rfl (vin_lit (by decide)) rfl dX8_mark_157 ?_
      refine lv_icmp_ge (tgt := 211) hx hb dX8_mark_158 (by decide) (fun hc => ?_) (fun hc => ?_)
      · have h := h.1 hc
        refine lv_iload_n hx hb dX8_mark_211 rfl (lv_at hl 2 rfl) ?_
        exact W.iret (v := x3) hx hb hr (fun zt ht hW => ⟨⟨x3, (finding, findings), rfl, h, by rw [ht]; exact hP⟩, hS.F ht⟩) hS.2.2 dX8_mark_212
      · have h := h.2 hc
        refine lv_iload_n hx hb dX8_mark_161 rfl (lv_at hl 2 rfl) ?_
        refine lv_aload_n hx hb dX8_mark_162 rfl (lv_at hl 0 rfl) ?_
        refine lv_iload hx hb dX8_mark_163 (lv_at hl 3 rfl) ?_
        refine rd_calli (va_runV (As := [.int x4]) (rest := [.int x3]) ⟨hx, hb, hml, hown, hts⟩ (c_X8_rootOf l D ca a rowSizes rows textSizes texts now keeps kept asked upper lower finding findings read at_ costs ways reach x4 _ h) (cwV 1 hts gX8_mark_X8_rootOf rfl rfl rfl (by decide +kernel) ⟨Nat.le_of_ble_eq_true rfl, Nat.le_of_ble_eq_true rfl⟩) (PcX.preV (q := (RX8, TX8, 17)) (ci := 7) (q0 := 0) hK hP rfl rfl hP) rfl rfl hl.1 rfl (lv_room (Nat.le_of_ble_eq_true rfl)) dX8_mark_165 ⟨Nat.le_of_ble_eq_true rfl, Nat.le_of_ble_eq_true rfl⟩) (fun r10 h => ?_)
        try dsimp only at h
        refine lv_aload_n hx hb dX8_mark_168 rfl (lv_at hl 0 rfl) ?_
        refine lv_iload_n hx hb dX8_mark_169 rfl (lv_at hl 1 rfl) ?_
        refine rd_calli (va_runV (As := [.int i]) (rest := [.int r10, .int x3]) ⟨hx, hb, hml, hown, hts⟩ (c_X8_rootOf l D ca a rowSizes rows textSizes texts now keeps kept asked upper lower finding findings read at_ costs ways reach i _ h) (cwV 1 hts gX8_mark_X8_rootOf rfl rfl rfl (by decide +kernel) ⟨Nat.le_of_ble_eq_true rfl, Nat.le_of_ble_eq_true rfl⟩) (PcX.preV (q := (RX8, TX8, 17)) (ci := 7) (q0 := 0) hK hP rfl rfl hP) rfl rfl hl.1 rfl (lv_room (Nat.le_of_ble_eq_true rfl)) dX8_mark_170 ⟨Nat.le_of_ble_eq_true rfl, Nat.le_of_ble_eq_true rfl⟩) (fun r11 h => ?_)
        try dsimp only at h
        refine lv_icmp_ne (tgt := 202) hx hb dX8_mark_173 (by decide) (fun hc => ?_) (fun hc => ?_)
        · have h := h.1 hc
          refine lv_iconst (v := (0)) hx hb dX8_mark_202 (by decide) ?_
          refine lv_iadd hx hb dX8_mark_203 ?_
          refine lv_istore_n (lv' := [(3, .int (x3 + (0 : Int32))), (0, .ref (a 0)), (1, .int i), (4, .int x4)]) hx hb dX8_mark_204 rfl hl (by decide) rfl (fun ls hl => ?_)
          refine lv_iinc (v := x4 + 1) (lv' := [(4, .int (x4 + 1)), (3, .int (x3 + (0 : Int32))), (0, .ref (a 0)), (1, .int i)]) hx hb dX8_mark_205 hl (k := 3) rfl rfl (by decide) rfl (fun ls hl => ?_)
          refine lv_goto (tgt := 150) hx hb dX8_mark_208 (by decide) ?_
          exact ih150 finding findings (x3 + (0 : Int32)) (x4 + 1) h _ _ hP hD hS ls (lv_sub hl [2, 3, 1, 0] rfl)
        · have h := h.2 hc
          refine lv_aload_n hx hb dX8_mark_176 rfl (lv_at hl 0 rfl) ?_
          refine va_get (D := D) (ci := 7) (v := .ref (a 5)) (C := RX8) (T := TX8) (N := 17) hx hb hts hi_X8_mark_X8 hown hK.1 hP 0 rfl rfl 4 (by decide) (hts _ k_X8_mark_2) (fun _ h9 => h9) rfl dX8_mark_177 ?_
          refine lv_bipush (v := (39)) hx hb dX8_mark_180 (by decide) ?_
          refine lv_iload hx hb dX8_mark_182 (lv_at hl 3 rfl) ?_
          refine lv_iadd hx hb dX8_mark_184 ?_
          obtain ⟨hi, h⟩ := h
          refine x_iald (v := now ((39 : Int32) + x4).toNatClampNeg) hx hb hK hP 5 rfl hi rfl dX8_mark_185 ?_
          refine lv_aload_n hx hb dX8_mark_186 rfl (lv_at hl 0 rfl) ?_
          refine va_get (D := D) (ci := 7) (v := .ref (a 5)) (C := RX8) (T := TX8) (N := 17) hx hb hts hi_X8_mark_X8 hown hK.1 hP 0 rfl rfl 4 (by decide) (hts _ k_X8_mark_2) (fun _ h9 => h9) rfl dX8_mark_187 ?_
          refine lv_bipush (v := (39)) hx hb dX8_mark_190 (by decide) ?_
          refine lv_iload_n hx hb dX8_mark_192 rfl (lv_at hl 1 rfl) ?_
          refine lv_iadd hx hb dX8_mark_193 ?_
          obtain ⟨hi, h⟩ := h
          refine x_iald (v := now ((39 : Int32) + i).toNatClampNeg) hx hb hK hP 5 rfl hi rfl dX8_mark_194 ?_
          refine lv_icmp_ne (tgt := 202) hx hb dX8_mark_195 (by decide) (fun hc => ?_) (fun hc => ?_)
          · have h := h.1 hc
            refine lv_iconst (v := (0)) hx hb dX8_mark_202 (by decide) ?_
            refine lv_iadd hx hb dX8_mark_203 ?_
            refine lv_istore_n (lv' := [(3, .int (x3 + (0 : Int32))), (0, .ref (a 0)), (1, .int i), (4, .int x4)]) hx hb dX8_mark_204 rfl hl (by decide) rfl (fun ls hl => ?_)
            refine lv_iinc (v := x4 + 1) (lv' := [(4, .int (x4 + 1)), (3, .int (x3 + (0 : Int32))), (0, .ref (a 0)), (1, .int i)]) hx hb dX8_mark_205 hl (k := 3) rfl rfl (by decide) rfl (fun ls hl => ?_)
            refine lv_goto (tgt := 150) hx hb dX8_mark_208 (by decide) ?_
            exact ih150 finding findings (x3 + (0 : Int32)) (x4 + 1) h _ _ hP hD hS ls (lv_sub hl [2, 3, 1, 0] rfl)
          · have h := h.2 hc
            refine lv_iconst (v := (1)) hx hb dX8_mark_198 (by decide) ?_
            refine lv_goto (tgt := 203) hx hb dX8_mark_199 (by decide) ?_
            refine lv_iadd hx hb dX8_mark_203 ?_
            refine lv_istore_n (lv' := [(3, .int (x3 + (1 : Int32))), (0, .ref (a 0)), (1, .int i), (4, .int x4)]) hx hb dX8_mark_204 rfl hl (by decide) rfl (fun ls hl => ?_)
            refine lv_iinc (v := x4 + 1) (lv' := [(4, .int (x4 + 1)), (3, .int (x3 + (1 : Int32))), (0, .ref (a 0)), (1, .int i)]) hx hb dX8_mark_205 hl (k := 3) rfl rfl (by decide) rfl (fun ls hl => ?_)
            refine lv_goto (tgt := 150) hx hb dX8_mark_208 (by decide) ?_
            exact ih150 finding findings (x3 + (1 : Int32)) (x4 + 1) h _ _ hP hD hS ls (lv_sub hl [2, 3, 1, 0] rfl)
  unfold wp_X8_mark at h
  refine lv_aload_n hx hb dX8_mark_0 rfl (lv_at hl 0 rfl) ?_
  refine lv_iload_n hx hb dX8_mark_1 rfl (lv_at hl 1 rfl) ?_
  refine rd_callz (va_runV (As := [.int i]) (rest := []) ⟨hx, hb, hml, hown, hts⟩ (c_X8_isSaying l D ca a rowSizes rows textSizes texts now keeps kept asked upper lower finding findings read at_ costs ways reach i _ h) (cwV 1 hts gX8_mark_X8_isSaying rfl rfl rfl (by decide +kernel) ⟨Nat.le_of_ble_eq_true rfl, Nat.le_of_ble_eq_true rfl⟩) (PcX.preV (q := (RX8, TX8, 17)) (ci := 7) (q0 := 0) hK hP rfl rfl hP) rfl rfl hl.1 rfl (lv_room (Nat.le_of_ble_eq_true rfl)) dX8_mark_2 ⟨Nat.le_of_ble_eq_true rfl, Nat.le_of_ble_eq_true rfl⟩) (fun r1 h hz_r1 => ?_)
  try dsimp only at h
  refine lv_if_eq (tgt := 20) hx hb dX8_mark_5 (by decide) (fun hc => ?_) (fun hc => ?_)
  · have h := h.1 hc
    refine lv_iconst (v := (-1)) hx hb dX8_mark_20 (by decide) ?_
    exact W.iret (v := (-1 : Int32)) hx hb hr (fun zt ht hW => ⟨⟨(-1 : Int32), (finding, findings), rfl, h, by rw [ht]; exact hP⟩, hS.F ht⟩) hS.2.2 dX8_mark_21
  · have h := h.2 hc
    refine lv_iload_n hx hb dX8_mark_8 rfl (lv_at hl 2 rfl) ?_
    refine lv_i2l hx hb dX8_mark_9 rfl ?_
    refine lv_lconst (v := (1)) hx hb dX8_mark_10 (by decide) ?_
    refine lv_ldc2 (v := (5)) hx hb hown (hts _ k_X8_mark_1) dX8_mark_11 ?_
    refine rd_callz (va_runS (As := [.long kind.toInt64, .long (1 : Int64), .long (5 : Int64)]) (rest := []) ⟨hx, hb, hml, hown, hts⟩ (c_X8_in l D ca   kind.toInt64 (1 : Int64) (5 : Int64) _ h) (va_cwS 3 hts gX8_mark_X8_in rfl rfl rfl (by decide +kernel) ⟨Nat.le_of_ble_eq_true rfl, Nat.le_of_ble_eq_true rfl⟩) (PcX.preS hK (fun zk zq zh => by simp at zh)) rfl rfl hl.1 rfl (lv_room (Nat.le_of_ble_eq_true rfl)) dX8_mark_14 ⟨Nat.le_of_ble_eq_true rfl, Nat.le_of_ble_eq_true rfl⟩) (fun r2 h hz_r2 => ?_)
    try dsimp only at h
    refine lv_if_ne (tgt := 22) hx hb dX8_mark_17 (by decide) (fun hc => ?_) (fun hc => ?_)
    · have h := h.1 hc
      refine lv_aload_n hx hb dX8_mark_22 rfl (lv_at hl 0 rfl) ?_
      refine va_get (D := D) (ci := 7) (v := .ref (a 5)) (C := RX8) (T := TX8) (N := 17) hx hb hts hi_X8_mark_X8 hown hK.1 hP 0 rfl rfl 4 (by decide) (hts _ k_X8_mark_2) (fun _ h9 => h9) rfl dX8_mark_23 ?_
      refine lv_iconst (v := (3)) hx hb dX8_mark_26 (by decide) ?_
      refine lv_iload_n hx hb dX8_mark_27 rfl (lv_at hl 1 rfl) ?_
      refine lv_iadd hx hb dX8_mark_28 ?_
      obtain ⟨hi, h⟩ := h
      refine x_iald (v := now ((3 : Int32) + i).toNatClampNeg) hx hb hK hP 5 rfl hi rfl dX8_mark_29 ?_
      refine lv_iload_n hx hb dX8_mark_30 rfl (lv_at hl 2 rfl) ?_
      refine rd_callz (va_runS (As := [.int (now ((3 : Int32) + i).toNatClampNeg), .int kind]) (rest := []) ⟨hx, hb, hml, hown, hts⟩ (c_X8_isOf l D ca   (now ((3 : Int32) + i).toNatClampNeg) kind _ h) (va_cwS 2 hts gX8_mark_X8_isOf rfl rfl rfl (by decide +kernel) ⟨Nat.le_of_ble_eq_true rfl, Nat.le_of_ble_eq_true rfl⟩) (PcX.preS hK (fun zk zq zh => by simp at zh)) rfl rfl hl.1 rfl (lv_room (Nat.le_of_ble_eq_true rfl)) dX8_mark_31 ⟨Nat.le_of_ble_eq_true rfl, Nat.le_of_ble_eq_true rfl⟩) (fun r3 h hz_r3 => ?_)
      try dsimp only at h
      refine lv_if_ne (tgt := 43) hx hb dX8_mark_34 (by decide) (fun hc => ?_) (fun hc => ?_)
      · have h := h.1 hc
        refine lv_iload_n hx hb dX8_mark_43 rfl (lv_at hl 2 rfl) ?_
        by_cases hc0 : kind = 1
        · have h := h.1 hc0
          refine lv_tableIn (tgt := 76) hx hb dX8_mark_44 (by rw [hc0]; decide) (by rw [hc0]; decide) (by rw [hc0]; rfl) (by decide) ?_
          refine lv_aload_n hx hb dX8_mark_76 rfl (lv_at hl 0 rfl) ?_
          refine lv_iload_n hx hb dX8_mark_77 rfl (lv_at hl 1 rfl) ?_
          refine lv_iconst (v := (1)) hx hb dX8_mark_78 (by decide) ?_
          refine lv_iload_n hx hb dX8_mark_79 rfl (lv_at hl 1 rfl) ?_
          refine lv_ishl hx hb dX8_mark_80 ?_
          refine lv_iconst (v := (1)) hx hb dX8_mark_81 (by decide) ?_
          refine lv_isub hx hb dX8_mark_82 ?_
          refine rd_calli (va_runV (As := [.int i, .int (((1 : Int32) <<< (i &&& 31)) - (1 : Int32))]) (rest := []) ⟨hx, hb, hml, hown, hts⟩ (c_X8_heat l D ca a rowSizes rows textSizes texts now keeps kept asked upper lower finding findings read at_ costs ways reach i (((1 : Int32) <<< (i &&& 31)) - (1 : Int32)) _ h) (cwV 2 hts gX8_mark_X8_heat rfl rfl rfl (by decide +kernel) ⟨Nat.le_of_ble_eq_true rfl, Nat.le_of_ble_eq_true rfl⟩) (PcX.preV (q := (RX8, TX8, 17)) (ci := 7) (q0 := 0) hK hP rfl rfl hP) rfl rfl hl.1 rfl (lv_room (Nat.le_of_ble_eq_true rfl)) dX8_mark_83 ⟨Nat.le_of_ble_eq_true rfl, Nat.le_of_ble_eq_true rfl⟩) (fun r4 h => ?_)
          try dsimp only at h
          exact W.iret (v := r4) hx hb hr (fun zt ht hW => ⟨⟨r4, (finding, findings), rfl, h, by rw [ht]; exact hP⟩, hS.F ht⟩) hS.2.2 dX8_mark_86
        · have h := h.2
          by_cases hc1 : kind = 2
          · have h := h.1 hc1
            refine lv_tableIn (tgt := 87) hx hb dX8_mark_44 (by rw [hc1]; decide) (by rw [hc1]; decide) (by rw [hc1]; rfl) (by decide) ?_
            refine lv_aload_n hx hb dX8_mark_87 rfl (lv_at hl 0 rfl) ?_
            refine lv_iload_n hx hb dX8_mark_88 rfl (lv_at hl 1 rfl) ?_
            refine rd_calli (va_runV (As := [.int i]) (rest := []) ⟨hx, hb, hml, hown, hts⟩ (c_X8_handsOf l D ca a rowSizes rows textSizes texts now keeps kept asked upper lower finding findings read at_ costs ways reach i _ h) (cwV 1 hts gX8_mark_X8_handsOf rfl rfl rfl (by decide +kernel) ⟨Nat.le_of_ble_eq_true rfl, Nat.le_of_ble_eq_true rfl⟩) (PcX.preV (q := (RX8, TX8, 17)) (ci := 7) (q0 := 0) hK hP rfl rfl hP) rfl rfl hl.1 rfl (lv_room (Nat.le_of_ble_eq_true rfl)) dX8_mark_89 ⟨Nat.le_of_ble_eq_true rfl, Nat.le_of_ble_eq_true rfl⟩) (fun r5 h => ?_)
            try dsimp only at h
            refine rd_calli (va_runS (As := [.int r5]) (rest := []) ⟨hx, hb, hml, hown, hts⟩ (c_X8_bits l D ca   r5 _ h) (va_cwS 1 hts gX8_mark_X8_bits rfl rfl rfl (by decide +kernel) ⟨Nat.le_of_ble_eq_true rfl, Nat.le_of_ble_eq_true rfl⟩) (PcX.preS hK (fun zk zq zh => by simp at zh)) rfl rfl hl.1 rfl (lv_room (Nat.le_of_ble_eq_true rfl)) dX8_mark_92 ⟨Nat.le_of_ble_eq_true rfl, Nat.le_of_ble_eq_true rfl⟩) (fun r6 h => ?_)
            try dsimp only at h
            exact W.iret (v := r6) hx hb hr (fun zt ht hW => ⟨⟨r6, (finding, findings), rfl, h, by rw [ht]; exact hP⟩, hS.F ht⟩) hS.2.2 dX8_mark_95
          · have h := h.2
            by_cases hc2 : kind = 3
            · have h := h.1 hc2
              refine lv_tableIn (tgt := 96) hx hb dX8_mark_44 (by rw [hc2]; decide) (by rw [hc2]; decide) (by rw [hc2]; rfl) (by decide) ?_
              refine lv_aload_n hx hb dX8_mark_96 rfl (lv_at hl 0 rfl) ?_
              refine lv_iload_n hx hb dX8_mark_97 rfl (lv_at hl 1 rfl) ?_
              refine lv_aload_n hx hb dX8_mark_98 rfl (lv_at hl 0 rfl) ?_
              refine va_get (D := D) (ci := 7) (v := .ref (a 5)) (C := RX8) (T := TX8) (N := 17) hx hb hts hi_X8_mark_X8 hown hK.1 hP 0 rfl rfl 4 (by decide) (hts _ k_X8_mark_2) (fun _ h9 => h9) rfl dX8_mark_99 ?_
              refine lv_iconst (v := (2)) hx hb dX8_mark_102 (by decide) ?_
              refine x_iald (v := now 2) hx hb hK hP 5 rfl (vin_lit (by decide)) rfl dX8_mark_103 ?_
              refine rd_calli (va_runV (As := [.int i, .int (now 2)]) (rest := []) ⟨hx, hb, hml, hown, hts⟩ (c_X8_price l D ca a rowSizes rows textSizes texts now keeps kept asked upper lower finding findings read at_ costs ways reach i (now 2) _ h) (cwV 2 hts gX8_mark_X8_price rfl rfl rfl (by decide +kernel) ⟨Nat.le_of_ble_eq_true rfl, Nat.le_of_ble_eq_true rfl⟩) (PcX.preV (q := (RX8, TX8, 17)) (ci := 7) (q0 := 0) hK hP rfl rfl hP) rfl rfl hl.1 rfl (lv_room (Nat.le_of_ble_eq_true rfl)) dX8_mark_104 ⟨Nat.le_of_ble_eq_true rfl, Nat.le_of_ble_eq_true rfl⟩) (fun r7 h => ?_)
              try dsimp only at h
              refine lv_aload_n hx hb dX8_mark_107 rfl (lv_at hl 0 rfl) ?_
              refine lv_iload_n hx hb dX8_mark_108 rfl (lv_at hl 1 rfl) ?_
              refine lv_aload_n hx hb dX8_mark_109 rfl (lv_at hl 0 rfl) ?_
              refine va_get (D := D) (ci := 7) (v := .ref (a 5)) (C := RX8) (T := TX8) (N := 17) hx hb hts hi_X8_mark_X8 hown hK.1 hP 0 rfl rfl 4 (by decide) (hts _ k_X8_mark_2) (fun _ h9 => h9) rfl dX8_mark_110 ?_
              refine lv_iconst (v := (2)) hx hb dX8_mark_113 (by decide) ?_
              refine x_iald (v := now 2) hx hb hK hP 5 rfl (vin_lit (by decide)) rfl dX8_mark_114 ?_
              refine rd_calli (va_runV (As := [.int i, .int (now 2)]) (rest := [.int r7]) ⟨hx, hb, hml, hown, hts⟩ (c_X8_heat l D ca a rowSizes rows textSizes texts now keeps kept asked upper lower finding findings read at_ costs ways reach i (now 2) _ h) (cwV 2 hts gX8_mark_X8_heat rfl rfl rfl (by decide +kernel) ⟨Nat.le_of_ble_eq_true rfl, Nat.le_of_ble_eq_true rfl⟩) (PcX.preV (q := (RX8, TX8, 17)) (ci := 7) (q0 := 0) hK hP rfl rfl hP) rfl rfl hl.1 rfl (lv_room (Nat.le_of_ble_eq_true rfl)) dX8_mark_115 ⟨Nat.le_of_ble_eq_true rfl, Nat.le_of_ble_eq_true rfl⟩) (fun r8 h => ?_)
              try dsimp only at h
              refine lv_isub hx hb dX8_mark_118 ?_
              refine lv_aload_n hx hb dX8_mark_119 rfl (lv_at hl 0 rfl) ?_
              refine va_get (D := D) (ci := 7) (v := .ref (a 5)) (C := RX8) (T := TX8) (N := 17) hx hb hts hi_X8_mark_X8 hown hK.1 hP 0 rfl rfl 4 (by decide) (hts _ k_X8_mark_2) (fun _ h9 => h9) rfl dX8_mark_120 ?_
              refine lv_bipush (v := (51)) hx hb dX8_mark_123 (by decide) ?_
              refine lv_iload_n hx hb dX8_mark_125 rfl (lv_at hl 1 rfl) ?_
              refine lv_iadd hx hb dX8_mark_126 ?_
              obtain ⟨hi, h⟩ := h
              refine x_iald (v := now ((51 : Int32) + i).toNatClampNeg) hx hb hK hP 5 rfl hi rfl dX8_mark_127 ?_
              refine lv_isub hx hb dX8_mark_128 ?_
              refine lv_bipush (v := (100)) hx hb dX8_mark_129 (by decide) ?_
              refine lv_iadd hx hb dX8_mark_131 ?_
              exact W.iret (v := ((r7 - r8) - (now ((51 : Int32) + i).toNatClampNeg)) + (100 : Int32)) hx hb hr (fun zt ht hW => ⟨⟨((r7 - r8) - (now ((51 : Int32) + i).toNatClampNeg)) + (100 : Int32), (finding, findings), rfl, h, by rw [ht]; exact hP⟩, hS.F ht⟩) hS.2.2 dX8_mark_132
            · have h := h.2
              by_cases hc3 : kind = 4
              · have h := h.1 hc3
                refine lv_tableIn (tgt := 133) hx hb dX8_mark_44 (by rw [hc3]; decide) (by rw [hc3]; decide) (by rw [hc3]; rfl) (by decide) ?_
                refine lv_aload_n hx hb dX8_mark_133 rfl (lv_at hl 0 rfl) ?_
                refine lv_iload_n hx hb dX8_mark_134 rfl (lv_at hl 1 rfl) ?_
                refine lv_aload_n hx hb dX8_mark_135 rfl (lv_at hl 0 rfl) ?_
                refine va_get (D := D) (ci := 7) (v := .ref (a 5)) (C := RX8) (T := TX8) (N := 17) hx hb hts hi_X8_mark_X8 hown hK.1 hP 0 rfl rfl 4 (by decide) (hts _ k_X8_mark_2) (fun _ h9 => h9) rfl dX8_mark_136 ?_
                refine lv_iconst (v := (2)) hx hb dX8_mark_139 (by decide) ?_
                refine x_iald (v := now 2) hx hb hK hP 5 rfl (vin_lit (by decide)) rfl dX8_mark_140 ?_
                refine rd_calli (va_runV (As := [.int i, .int (now 2)]) (rest := []) ⟨hx, hb, hml, hown, hts⟩ (c_X8_answering l D ca a rowSizes rows textSizes texts now keeps kept asked upper lower finding findings read at_ costs ways reach i (now 2) _ h) (cwV 2 hts gX8_mark_X8_answering rfl rfl rfl (by decide +kernel) ⟨Nat.le_of_ble_eq_true rfl, Nat.le_of_ble_eq_true rfl⟩) (PcX.preV (q := (RX8, TX8, 17)) (ci := 7) (q0 := 0) hK hP rfl rfl hP) rfl rfl hl.1 rfl (lv_room (Nat.le_of_ble_eq_true rfl)) dX8_mark_141 ⟨Nat.le_of_ble_eq_true rfl, Nat.le_of_ble_eq_true rfl⟩) (fun r9 h => ?_)
                try dsimp only at h
                exact W.iret (v := r9) hx hb hr (fun zt ht hW => ⟨⟨r9, (finding, findings), rfl, h, by rw [ht]; exact hP⟩, hS.F ht⟩) hS.2.2 dX8_mark_144
              · have h := h.2
                have h := h hc0 hc1 hc2 hc3
                have hsw : kind.toInt < 1 ∨ 4 < kind.toInt := x_swOutL 1 4 4 (by decide) (by decide) (by decide) (fun j hj => by rcases (show j = 0 ∨ j = 1 ∨ j = 2 ∨ j = 3 by omega) with rfl | rfl | rfl | rfl <;> assumption)
                refine lv_tableOut (tgt := 145) hx hb dX8_mark_44 hsw (by decide) ?_
                refine lv_iconst (v := (0)) hx hb dX8_mark_145 (by decide) ?_
                refine lv_istore_n (lv' := [(3, .int (0 : Int32)), (0, .ref (a 0)), (1, .int i), (2, .int kind)]) hx hb dX8_mark_146 rfl hl (by decide) rfl (fun ls hl => ?_)
                refine lv_iconst (v := (0)) hx hb dX8_mark_147 (by decide) ?_
                refine lv_istore (lv' := [(4, .int (0 : Int32)), (3, .int (0 : Int32)), (0, .ref (a 0)), (1, .int i), (2, .int kind)]) hx hb dX8_mark_148 hl (by decide) rfl (fun ls hl => ?_)
                obtain ⟨zn, h⟩ := h
                exact w_150  zn finding findings (0 : Int32) (0 : Int32) h _ _ hP hD hS ls (lv_sub hl [2, 3, 1, 0] rfl)
      · have h := h.2 hc
        refine lv_aload_n hx hb dX8_mark_37 rfl (lv_at hl 0 rfl) ?_
        refine lv_iconst (v := (3)) hx hb dX8_mark_38 (by decide) ?_
        refine wr_calli (ws1 := fun zu => W_X8 ca a rowSizes rows textSizes texts now keeps kept asked upper lower zu.1 zu.2 read at_ costs ways reach) (wr := ([] : List Nat).filterMap (fun zi => (W_X8 ca a rowSizes rows textSizes texts now keeps kept asked upper lower finding findings read at_ costs ways reach : va_W)[zi]?)) (n := 13) (va_runV (As := [.int (3 : Int32)]) (rest := []) ⟨hx, hb, hml, hown, hts⟩ (c_X8_found l D ca a rowSizes rows textSizes texts now keeps kept asked upper lower finding findings read at_ costs ways reach (3 : Int32) _ (hD.subM [0, 1, 2, 3, 4, 5, 6, 7, 8, 9, 10, 11, 12] (by decide) rfl) h) (cwV 1 hts gX8_mark_X8_found rfl rfl rfl (by decide +kernel) ⟨Nat.le_of_ble_eq_true rfl, Nat.le_of_ble_eq_true rfl⟩) (PcX.preV (q := (RX8, TX8, 17)) (ci := 7) (q0 := 0) hK hP rfl rfl hP) rfl rfl hl.1 rfl (lv_room (Nat.le_of_ble_eq_true rfl)) dX8_mark_39 ⟨Nat.le_of_ble_eq_true rfl, Nat.le_of_ble_eq_true rfl⟩) hP hD hS [0, 1, 2, 3, 4, 5, 6, 7, 8, 9, 10, 11, 12] [] rfl (fun _ => rfl) rfl (fun _ => rfl) (fun _ => rfl) (fun _ => rfl) (by decide +kernel) (by decide +kernel) (fun r12 zu H locs h hP hD hS => ?_)
        obtain ⟨finding_13, findings_14⟩ := zu
        have hP : va_P D vwCl (W_X8 ca a rowSizes rows textSizes texts now keeps kept asked upper lower finding_13 findings_14 read at_ costs ways reach) H := hP
        have hD : va_D _ (W_X8 ca a rowSizes rows textSizes texts now keeps kept asked upper lower finding_13 findings_14 read at_ costs ways reach) := hD
        try dsimp only at h
        exact W.iret (v := r12) hx hb hr (fun zt ht hW => ⟨⟨r12, (finding_13, findings_14), rfl, h, by rw [ht]; exact hP⟩, hS.F ht⟩) hS.2.2 dX8_mark_42
    · have h := h.2 hc
      refine lv_iconst (v := (-1)) hx hb dX8_mark_20 (by decide) ?_
      exact W.iret (v := (-1 : Int32)) hx hb hr (fun zt ht hW => ⟨⟨(-1 : Int32), (finding, findings), rfl, h, by rw [ht]; exact hP⟩, hS.F ht⟩) hS.2.2 dX8_mark_21

-- IronedQuarrelsModel.does(I)V
def wp_X8_does (now : Nat → Int32) (deed : Int32) (post : (Nat → Int32) → Prop) : Prop :=
  vp_in ((75 : Int32) + (now 1)) 115 ∧ post (upd (upd now (((75 : Int32) + (now 1)).toNatClampNeg) deed) 1 (((upd now (((75 : Int32) + (now 1)).toNatClampNeg) deed) 1) + (1 : Int32)))
def rm_X8_does : Room := { frames := 0, cells := 0, slots := 0, locals := 0 }
theorem k_X8_does_1 : Cond.fieldLink RX8 22 "IronedQuarrelsModel" "now" "[I" ∈ wsX8_does := List.mem_of_getElem? (i := 1) (by decide +kernel)
theorem hi_X8_does_X8 : ∀ w ∈ wsX80, w ∈ wsX8_does := fun w h => List.mem_cons_of_mem _ (List.mem_append_right _ h)
set_option maxHeartbeats 4000000 in
set_option maxRecDepth 100000 in
theorem c_X8_does (l : Launch) (D : va_G) (ca : Nat → ClassId) (a : Nat → Nat) (rowSizes : Nat → Int32) (rows : Nat → Int32) (textSizes : Nat → Int32) (texts : Nat → Int32) (now : Nat → Int32) (keeps : Nat → Int32) (kept : Nat → Int32) (asked : Int32) (upper : Int64) (lower : Int64) (finding : Int32) (findings : Nat → Int32) (read : Nat → Int32) (at_ : Int32) (costs : Nat → Int32) (ways : Nat → Int64) (reach : Nat → Int32) (deed : Int32) (post : (Nat → Int32) → Prop) (hd : va_D (fun _ => True) (W_X8 ca a rowSizes rows textSizes texts now keeps kept asked upper lower finding findings read at_ costs ways reach)) (h : wp_X8_does now deed post) : Met l yX8_does wsX8_does rm_X8_does (PcX D ca [.ref (a 0), .int deed] (W_X8 ca a rowSizes rows textSizes texts now keeps kept asked upper lower finding findings read at_ costs ways reach)) (wrV (S := (Nat → Int32)) D (W_X8 ca a rowSizes rows textSizes texts now keeps kept asked upper lower finding findings read at_ costs ways reach) (fun zu => W_X8 ca a rowSizes rows textSizes texts zu keeps kept asked upper lower finding findings read at_ costs ways reach) (fun zu => post zu)) 0 0 (adr (W_X8 ca a rowSizes rows textSizes texts now keeps kept asked upper lower finding findings read at_ costs ways reach)) := by
  refine Met.ofW (cc := cX8_does) (maxL := 2) (ret := none) (by decide) rfl ?_
  intro zp ze zs zm za zb zt zc z1 B hml hv
  obtain ⟨rfl, hP, hK⟩ := hv
  have hx := B.exec
  have hb := B.bytes
  have hr := B.returns
  have hts := atoms_spec (ws := wsX8_does) B.pre
  have hown : zs.vm.findClass RX8 = some zm.cls := findClass_of_methodNamed B.named
  have hlocks := B.notSynchronized
  have hD : va_D (adr (W_X8 ca a rowSizes rows textSizes texts now keeps kept asked upper lower finding findings read at_ costs ways reach)) (W_X8 ca a rowSizes rows textSizes texts now keeps kept asked upper lower finding findings read at_ costs ways reach) := hd.adr
  have hS : va_S (adr (W_X8 ca a rowSizes rows textSizes texts now keeps kept asked upper lower finding findings read at_ costs ways reach)) zs.heap zs.heap [] := va_S.rf
  have hl := lv_entry ([.ref (a 0), .int deed]) (n := 2) (Nat.le_of_ble_eq_true rfl)
  rw [lg_entry_eq]
  generalize (lg_sl ([.ref (a 0), .int deed]) ++ List.replicate (2 - (lg_sl ([.ref (a 0), .int deed])).length) Slot.unset).toArray = ls at hl ⊢
  replace hl : lv_has ls 2 [(0, .ref (a 0)), (1, .int deed)] := hl
  show W zp l ze rm_X8_does zs zm ([.ref (a 0), .int deed] : List Value).toArray zb zt zc zs.heap [] 0 0 (MQ zb (wrV (S := (Nat → Int32)) D (W_X8 ca a rowSizes rows textSizes texts now keeps kept asked upper lower finding findings read at_ costs ways reach) (fun zu => W_X8 ca a rowSizes rows textSizes texts zu keeps kept asked upper lower finding findings read at_ costs ways reach) (fun zu => post zu)) ([.ref (a 0), .int deed] : List Value).toArray zs 0 0 (adr (W_X8 ca a rowSizes rows textSizes texts now keeps kept asked upper lower finding findings read at_ costs ways reach))) (F0 zm 0 ls [])
  unfold wp_X8_does at h
  refine lv_aload_n hx hb dX8_does_0 rfl (lv_at hl 0 rfl) ?_
  refine va_get (D := D) (ci := 7) (v := .ref (a 5)) (C := RX8) (T := TX8) (N := 17) hx hb hts hi_X8_does_X8 hown hK.1 hP 0 rfl rfl 4 (by decide) (hts _ k_X8_does_1) (fun _ h9 => h9) rfl dX8_does_1 ?_
  refine lv_bipush (v := (75)) hx hb dX8_does_4 (by decide) ?_
  refine lv_aload_n hx hb dX8_does_6 rfl (lv_at hl 0 rfl) ?_
  refine va_get (D := D) (ci := 7) (v := .ref (a 5)) (C := RX8) (T := TX8) (N := 17) hx hb hts hi_X8_does_X8 hown hK.1 hP 0 rfl rfl 4 (by decide) (hts _ k_X8_does_1) (fun _ h9 => h9) rfl dX8_does_7 ?_
  refine lv_iconst (v := (1)) hx hb dX8_does_10 (by decide) ?_
  refine x_iald (v := now 1) hx hb hK hP 5 rfl (vin_lit (by decide)) rfl dX8_does_11 ?_
  refine lv_iadd hx hb dX8_does_12 ?_
  refine lv_iload_n hx hb dX8_does_13 rfl (lv_at hl 1 rfl) ?_
  obtain ⟨hi, h⟩ := h
  refine x_iast (ws' := W_X8 ca a rowSizes rows textSizes texts (upd now (((75 : Int32) + (now 1)).toNatClampNeg) deed) keeps kept asked upper lower finding findings read at_ costs ways reach) hx hb hK hP hD hS 5 rfl hi (k := (((75 : Int32) + (now 1)).toNatClampNeg)) rfl rfl dX8_does_14 (fun H locs hP hD hS => ?_)
  refine lv_aload_n hx hb dX8_does_15 rfl (lv_at hl 0 rfl) ?_
  refine va_get (D := D) (ci := 7) (v := .ref (a 5)) (C := RX8) (T := TX8) (N := 17) hx hb hts hi_X8_does_X8 hown hK.1 hP 0 rfl rfl 4 (by decide) (hts _ k_X8_does_1) (fun _ h9 => h9) rfl dX8_does_16 ?_
  refine lv_iconst (v := (1)) hx hb dX8_does_19 (by decide) ?_
  refine lv_dup2_11 hx hb dX8_does_20 rfl rfl ?_
  refine x_iald (v := (upd now (((75 : Int32) + (now 1)).toNatClampNeg) deed) 1) hx hb hK hP 5 rfl (vin_lit (by decide)) rfl dX8_does_21 ?_
  refine lv_iconst (v := (1)) hx hb dX8_does_22 (by decide) ?_
  refine lv_iadd hx hb dX8_does_23 ?_
  refine x_iast (ws' := W_X8 ca a rowSizes rows textSizes texts (upd (upd now (((75 : Int32) + (now 1)).toNatClampNeg) deed) 1 (((upd now (((75 : Int32) + (now 1)).toNatClampNeg) deed) 1) + (1 : Int32))) keeps kept asked upper lower finding findings read at_ costs ways reach) hx hb hK hP hD hS 5 rfl (vin_lit (by decide)) (k := 1) rfl rfl dX8_does_24 (fun H locs hP hD hS => ?_)
  exact W.vret hx hb hr (fun zt ht hW => ⟨⟨(upd (upd now (((75 : Int32) + (now 1)).toNatClampNeg) deed) 1 (((upd now (((75 : Int32) + (now 1)).toNatClampNeg) deed) 1) + (1 : Int32))), rfl, h, by rw [ht]; exact hP⟩, hS.F ht⟩) hS.2.2 dX8_does_25

-- IronedQuarrelsModel.say(IIII)I
def wb_X8_say_54 (kind : Int32) (told : Int32) (weight : Int32) (answers : Int32) (post : Int32 → (Nat → Int32) → Prop) (now : Nat → Int32) : Prop :=
  wp_X8_isPerson ((told / (10 : Int32)) - (told / (10 : Int32)) / (10 : Int32) * (10 : Int32)) (fun r4 => (r4 = 0 → (post (-1 : Int32) now)) ∧ (¬ r4 = 0 → (((5 : Int32) < (told - told / (10 : Int32) * (10 : Int32)) → (post (-1 : Int32) now)) ∧ (¬ (5 : Int32) < (told - told / (10 : Int32) * (10 : Int32)) → ((¬ (told / (100 : Int32)) = ((told / (10 : Int32)) - (told / (10 : Int32)) / (10 : Int32) * (10 : Int32)) → (((now 0) = (12 : Int32) → (post (-2 : Int32) now)) ∧ (¬ (now 0) = (12 : Int32) → ((¬ (now 1) = (40 : Int32) → (vp_in ((3 : Int32) + (now 0)) 115 ∧ vp_in ((15 : Int32) + (now 0)) 115 ∧ vp_in ((27 : Int32) + (now 0)) 115 ∧ vp_in ((39 : Int32) + (now 0)) 115 ∧ vp_in ((51 : Int32) + (now 0)) 115 ∧ vp_in ((63 : Int32) + (now 0)) 115 ∧ wp_X8_does (upd (upd (upd (upd (upd (upd (upd (upd now (((3 : Int32) + (now 0)).toNatClampNeg) kind) (((15 : Int32) + (now 0)).toNatClampNeg) (told / (100 : Int32))) (((27 : Int32) + (now 0)).toNatClampNeg) ((told / (10 : Int32)) - (told / (10 : Int32)) / (10 : Int32) * (10 : Int32))) (((39 : Int32) + (now 0)).toNatClampNeg) (told - told / (10 : Int32) * (10 : Int32))) (((51 : Int32) + (now 0)).toNatClampNeg) weight) (((63 : Int32) + (now 0)).toNatClampNeg) answers) 2 (((upd (upd (upd (upd (upd (upd now (((3 : Int32) + (now 0)).toNatClampNeg) kind) (((15 : Int32) + (now 0)).toNatClampNeg) (told / (100 : Int32))) (((27 : Int32) + (now 0)).toNatClampNeg) ((told / (10 : Int32)) - (told / (10 : Int32)) / (10 : Int32) * (10 : Int32))) (((39 : Int32) + (now 0)).toNatClampNeg) (told - told / (10 : Int32) * (10 : Int32))) (((51 : Int32) + (now 0)).toNatClampNeg) weight) (((63 : Int32) + (now 0)).toNatClampNeg) answers) 2) ||| ((1 : Int32) <<< ((now 0) &&& 31)))) 0 (((upd (upd (upd (upd (upd (upd (upd now (((3 : Int32) + (now 0)).toNatClampNeg) kind) (((15 : Int32) + (now 0)).toNatClampNeg) (told / (100 : Int32))) (((27 : Int32) + (now 0)).toNatClampNeg) ((told / (10 : Int32)) - (told / (10 : Int32)) / (10 : Int32) * (10 : Int32))) (((39 : Int32) + (now 0)).toNatClampNeg) (told - told / (10 : Int32) * (10 : Int32))) (((51 : Int32) + (now 0)).toNatClampNeg) weight) (((63 : Int32) + (now 0)).toNatClampNeg) answers) 2 (((upd (upd (upd (upd (upd (upd now (((3 : Int32) + (now 0)).toNatClampNeg) kind) (((15 : Int32) + (now 0)).toNatClampNeg) (told / (100 : Int32))) (((27 : Int32) + (now 0)).toNatClampNeg) ((told / (10 : Int32)) - (told / (10 : Int32)) / (10 : Int32) * (10 : Int32))) (((39 : Int32) + (now 0)).toNatClampNeg) (told - told / (10 : Int32) * (10 : Int32))) (((51 : Int32) + (now 0)).toNatClampNeg) weight) (((63 : Int32) + (now 0)).toNatClampNeg) answers) 2) ||| ((1 : Int32) <<< ((now 0) &&& 31)))) 0) + (1 : Int32))) ((100 : Int32) + (now 0)) (fun now_5 => post (now 0) now_5))) ∧ ((now 1) = (40 : Int32) → (post (-2 : Int32) now)))))) ∧ ((told / (100 : Int32)) = ((told / (10 : Int32)) - (told / (10 : Int32)) / (10 : Int32) * (10 : Int32)) → (post (-1 : Int32) now)))))))
def wp_X8_say (now : Nat → Int32) (kind : Int32) (told : Int32) (weight : Int32) (answers : Int32) (post : Int32 → (Nat → Int32) → Prop) : Prop :=
  wp_X8_in kind.toInt64 (0 : Int64) (5 : Int64) (fun r1 => (r1 = 0 → (post (-1 : Int32) now)) ∧ (¬ r1 = 0 → (wp_X8_in told.toInt64 (0 : Int64) (555 : Int64) (fun r2 => (r2 = 0 → (post (-1 : Int32) now)) ∧ (¬ r2 = 0 → (wp_X8_in weight.toInt64 (1 : Int64) (9 : Int64) (fun r3 => (r3 = 0 → (post (-1 : Int32) now)) ∧ (¬ r3 = 0 → ((answers = (-9 : Int32) → (wb_X8_say_54 kind told weight answers post now)) ∧ (¬ answers = (-9 : Int32) → (wp_X8_isSaying now answers (fun r6 => (¬ r6 = 0 → (wb_X8_say_54 kind told weight answers post now)) ∧ (r6 = 0 → (post (-1 : Int32) now))))))))))))))
def rm_X8_say : Room := { frames := 2, cells := 0, slots := 0, locals := 46 }
theorem k_X8_say_1 : Cond.constantLong RX8 59 (5) ∈ wsX8_say := List.mem_of_getElem? (i := 1) (by decide +kernel)
theorem k_X8_say_2 : Cond.constantLong RX8 142 (555) ∈ wsX8_say := List.mem_of_getElem? (i := 2) (by decide +kernel)
theorem k_X8_say_3 : Cond.constantLong RX8 144 (9) ∈ wsX8_say := List.mem_of_getElem? (i := 3) (by decide +kernel)
theorem k_X8_say_4 : Cond.fieldLink RX8 22 "IronedQuarrelsModel" "now" "[I" ∈ wsX8_say := List.mem_of_getElem? (i := 4) (by decide +kernel)
theorem hi_X8_say_X8 : ∀ w ∈ wsX80, w ∈ wsX8_say := fun w h => List.mem_cons_of_mem _ (List.mem_append_right _ h)
set_option maxHeartbeats 4000000 in
set_option maxRecDepth 100000 in
theorem c_X8_say (l : Launch) (D : va_G) (ca : Nat → ClassId) (a : Nat → Nat) (rowSizes : Nat → Int32) (rows : Nat → Int32) (textSizes : Nat → Int32) (texts : Nat → Int32) (now : Nat → Int32) (keeps : Nat → Int32) (kept : Nat → Int32) (asked : Int32) (upper : Int64) (lower : Int64) (finding : Int32) (findings : Nat → Int32) (read : Nat → Int32) (at_ : Int32) (costs : Nat → Int32) (ways : Nat → Int64) (reach : Nat → Int32) (kind : Int32) (told : Int32) (weight : Int32) (answers : Int32) (post : Int32 → (Nat → Int32) → Prop) (hd : va_D (fun _ => True) (W_X8 ca a rowSizes rows textSizes texts now keeps kept asked upper lower finding findings read at_ costs ways reach)) (h : wp_X8_say now kind told weight answers post) : Met l yX8_say wsX8_say rm_X8_say (PcX D ca [.ref (a 0), .int kind, .int told, .int weight, .int answers] (W_X8 ca a rowSizes rows textSizes texts now keeps kept asked upper lower finding findings read at_ costs ways reach)) (wrI (S := (Nat → Int32)) D (W_X8 ca a rowSizes rows textSizes texts now keeps kept asked upper lower finding findings read at_ costs ways reach) (fun zu => W_X8 ca a rowSizes rows textSizes texts zu keeps kept asked upper lower finding findings read at_ costs ways reach) (fun zr zu => post zr zu)) 0 0 (adr (W_X8 ca a rowSizes rows textSizes texts now keeps kept asked upper lower finding findings read at_ costs ways reach)) := by
  refine Met.ofW (cc := cX8_say) (maxL := 9) (ret := (some .int)) (by decide) rfl ?_
  intro zp ze zs zm za zb zt zc z1 B hml hv
  obtain ⟨rfl, hP, hK⟩ := hv
  have hx := B.exec
  have hb := B.bytes
  have hr := B.returns
  have hts := atoms_spec (ws := wsX8_say) B.pre
  have hown : zs.vm.findClass RX8 = some zm.cls := findClass_of_methodNamed B.named
  have hlocks := B.notSynchronized
  have hD : va_D (adr (W_X8 ca a rowSizes rows textSizes texts now keeps kept asked upper lower finding findings read at_ costs ways reach)) (W_X8 ca a rowSizes rows textSizes texts now keeps kept asked upper lower finding findings read at_ costs ways reach) := hd.adr
  have hS : va_S (adr (W_X8 ca a rowSizes rows textSizes texts now keeps kept asked upper lower finding findings read at_ costs ways reach)) zs.heap zs.heap [] := va_S.rf
  have hl := lv_entry ([.ref (a 0), .int kind, .int told, .int weight, .int answers]) (n := 9) (Nat.le_of_ble_eq_true rfl)
  rw [lg_entry_eq]
  generalize (lg_sl ([.ref (a 0), .int kind, .int told, .int weight, .int answers]) ++ List.replicate (9 - (lg_sl ([.ref (a 0), .int kind, .int told, .int weight, .int answers])).length) Slot.unset).toArray = ls at hl ⊢
  replace hl : lv_has ls 9 [(0, .ref (a 0)), (1, .int kind), (2, .int told), (3, .int weight), (4, .int answers)] := hl
  show W zp l ze rm_X8_say zs zm ([.ref (a 0), .int kind, .int told, .int weight, .int answers] : List Value).toArray zb zt zc zs.heap [] 0 0 (MQ zb (wrI (S := (Nat → Int32)) D (W_X8 ca a rowSizes rows textSizes texts now keeps kept asked upper lower finding findings read at_ costs ways reach) (fun zu => W_X8 ca a rowSizes rows textSizes texts zu keeps kept asked upper lower finding findings read at_ costs ways reach) (fun zr zu => post zr zu)) ([.ref (a 0), .int kind, .int told, .int weight, .int answers] : List Value).toArray zs 0 0 (adr (W_X8 ca a rowSizes rows textSizes texts now keeps kept asked upper lower finding findings read at_ costs ways reach))) (F0 zm 0 ls [])
  have w_54 : ∀ (now : Nat → Int32), wb_X8_say_54 kind told weight answers post now → ∀ (H : Heap) (locs : List Loc), va_P D vwCl (W_X8 ca a rowSizes rows textSizes texts now keeps kept asked upper lower finding findings read at_ costs ways reach) H → va_D (adr (W_X8 ca a rowSizes rows textSizes texts now keeps kept asked upper lower finding findings read at_ costs ways reach)) (W_X8 ca a rowSizes rows textSizes texts now keeps kept asked upper lower finding findings read at_ costs ways reach) → va_S (adr (W_X8 ca a rowSizes rows textSizes texts now keeps kept asked upper lower finding findings read at_ costs ways reach)) zs.heap H locs → ∀ ls : Array Slot, lv_has ls 9 [(0, .ref (a 0)), (1, .int kind), (2, .int told), (3, .int weight), (4, .int answers)] → W zp l ze rm_X8_say zs zm ([.ref (a 0), .int kind, .int told, .int weight, .int answers] : List Value).toArray zb zt zc H locs 0 0 (MQ zb (wrI (S := (Nat → Int32)) D (W_X8 ca a rowSizes rows textSizes texts now keeps kept asked upper lower finding findings read at_ costs ways reach) (fun zu => W_X8 ca a rowSizes rows textSizes texts zu keeps kept asked upper lower finding findings read at_ costs ways reach) (fun zr zu => post zr zu)) ([.ref (a 0), .int kind, .int told, .int weight, .int answers] : List Value).toArray zs 0 0 (adr (W_X8 ca a rowSizes rows textSizes texts now keeps kept asked upper lower finding findings read at_ costs ways reach))) (F0 zm 54 ls []) := by
    intro now h H locs hP hD hS ls hl
    unfold wb_X8_say_54 at h
    refine lv_iload_n hx hb dX8_say_54 rfl (lv_at hl 2 rfl) ?_
    refine lv_bipush (v := (100)) hx hb dX8_say_55 (by decide) ?_
    refine lv_idiv hx hb dX8_say_57 (by decide) ?_
    refine lv_istore (lv' := [(5, .int (told / (100 : Int32))), (0, .ref (a 0)), (1, .int kind), (2, .int told), (3, .int weight), (4, .int answers)]) hx hb dX8_say_58 hl (by decide) rfl (fun ls hl => ?_)
    refine lv_iload_n hx hb dX8_say_60 rfl (lv_at hl 3 rfl) ?_
    refine lv_bipush (v := (10)) hx hb dX8_say_61 (by decide) ?_
    refine lv_idiv hx hb dX8_say_63 (by decide) ?_
    refine lv_bipush (v := (10)) hx hb dX8_say_64 (by decide) ?_
    refine lv_irem hx hb dX8_say_66 (by decide) ?_
    refine lv_istore (lv' := [(6, .int ((told / (10 : Int32)) - (told / (10 : Int32)) / (10 : Int32) * (10 : Int32))), (5, .int (told / (100 : Int32))), (0, .ref (a 0)), (1, .int kind), (2, .int told), (3, .int weight), (4, .int answers)]) hx hb dX8_say_67 hl (by decide) rfl (fun ls hl => ?_)
    refine lv_iload_n hx hb dX8_say_69 rfl (lv_at hl 4 rfl) ?_
    refine lv_bipush (v := (10)) hx hb dX8_say_70 (by decide) ?_
    refine lv_irem hx hb dX8_say_72 (by decide) ?_
    refine lv_istore (lv' := [(7, .int (told - told / (10 : Int32) * (10 : Int32))), (6, .int ((told / (10 : Int32)) - (told / (10 : Int32)) / (10 : Int32) * (10 : Int32))), (5, .int (told / (100 : Int32))), (0, .ref (a 0)), (1, .int kind), (2, .int told), (3, .int weight), (4, .int answers)]) hx hb dX8_say_73 hl (by decide) rfl (fun ls hl => ?_)
    refine lv_iload hx hb dX8_say_75 (lv_at hl 1 rfl) ?_
    refine rd_callz (va_runS (As := [.int ((told / (10 : Int32)) - (told / (10 : Int32)) / (10 : Int32) * (10 : Int32))]) (rest := []) ⟨hx, hb, hml, hown, hts⟩ (c_X8_isPerson l D ca   ((told / (10 : Int32)) - (told / (10 : Int32)) / (10 : Int32) * (10 : Int32)) _ h) (va_cwS 1 hts gX8_say_X8_isPerson rfl rfl rfl (by decide +kernel) ⟨Nat.le_of_ble_eq_true rfl, Nat.le_of_ble_eq_true rfl⟩) (PcX.preS hK (fun zk zq zh => by simp at zh)) rfl rfl hl.1 rfl (lv_room (Nat.le_of_ble_eq_true rfl)) dX8_say_77 ⟨Nat.le_of_ble_eq_true rfl, Nat.le_of_ble_eq_true rfl⟩) (fun r4 h hz_r4 => ?_)
    try dsimp only at h
    refine lv_if_eq (tgt := 96) hx hb dX8_say_80 (by decide) (fun hc => ?_) (fun hc => ?_)
    · have h := h.1 hc
      refine lv_iconst (v := (-1)) hx hb dX8_say_96 (by decide) ?_
      exact W.iret (v := (-1 : Int32)) hx hb hr (fun zt ht hW => ⟨⟨(-1 : Int32), now, rfl, h, by rw [ht]; exact hP⟩, hS.F ht⟩) hS.2.2 dX8_say_97
    · have h := h.2 hc
      refine lv_iload hx hb dX8_say_83 (lv_at hl 0 rfl) ?_
      refine lv_iconst (v := (5)) hx hb dX8_say_85 (by decide) ?_
      refine lv_icmp_gt (tgt := 96) hx hb dX8_say_86 (by decide) (fun hc => ?_) (fun hc => ?_)
      · have h := h.1 hc
        refine lv_iconst (v := (-1)) hx hb dX8_say_96 (by decide) ?_
        exact W.iret (v := (-1 : Int32)) hx hb hr (fun zt ht hW => ⟨⟨(-1 : Int32), now, rfl, h, by rw [ht]; exact hP⟩, hS.F ht⟩) hS.2.2 dX8_say_97
      · have h := h.2 hc
        refine lv_iload hx hb dX8_say_89 (lv_at hl 2 rfl) ?_
        refine lv_iload hx hb dX8_say_91 (lv_at hl 1 rfl) ?_
        refine lv_icmp_ne (tgt := 98) hx hb dX8_say_93 (by decide) (fun hc => ?_) (fun hc => ?_)
        · have h := h.1 hc
          refine lv_aload_n hx hb dX8_say_98 rfl (lv_at hl 3 rfl) ?_
          refine va_get (D := D) (ci := 7) (v := .ref (a 5)) (C := RX8) (T := TX8) (N := 17) hx hb hts hi_X8_say_X8 hown hK.1 hP 0 rfl rfl 4 (by decide) (hts _ k_X8_say_4) (fun _ h9 => h9) rfl dX8_say_99 ?_
          refine lv_iconst (v := (0)) hx hb dX8_say_102 (by decide) ?_
          refine x_iald (v := now 0) hx hb hK hP 5 rfl (vin_lit (by decide)) rfl dX8_say_103 ?_
          refine lv_istore (lv' := [(8, .int (now 0)), (7, .int (told - told / (10 : Int32) * (10 : Int32))), (6, .int ((told / (10 : Int32)) - (told / (10 : Int32)) / (10 : Int32) * (10 : Int32))), (5, .int (told / (100 : Int32))), (0, .ref (a 0)), (1, .int kind), (2, .int told), (3, .int weight), (4, .int answers)]) hx hb dX8_say_104 hl (by decide) rfl (fun ls hl => ?_)
          refine lv_iload hx hb dX8_say_106 (lv_at hl 0 rfl) ?_
          refine lv_bipush (v := (12)) hx hb dX8_say_108 (by decide) ?_
          refine lv_icmp_eq (tgt := 124) hx hb dX8_say_110 (by decide) (fun hc => ?_) (fun hc => ?_)
          · have h := h.1 hc
            refine lv_bipush (v := (-2)) hx hb dX8_say_124 (by decide) ?_
            exact W.iret (v := (-2 : Int32)) hx hb hr (fun zt ht hW => ⟨⟨(-2 : Int32), now, rfl, h, by rw [ht]; exact hP⟩, hS.F ht⟩) hS.2.2 dX8_say_126
          · have h := h.2 hc
            refine lv_aload_n hx hb dX8_say_113 rfl (lv_at hl 4 rfl) ?_
            refine va_get (D := D) (ci := 7) (v := .ref (a 5)) (C := RX8) (T := TX8) (N := 17) hx hb hts hi_X8_say_X8 hown hK.1 hP 0 rfl rfl 4 (by decide) (hts _ k_X8_say_4) (fun _ h9 => h9) rfl dX8_say_114 ?_
            refine lv_iconst (v := (1)) hx hb dX8_say_117 (by decide) ?_
            refine x_iald (v := now 1) hx hb hK hP 5 rfl (vin_lit (by decide)) rfl dX8_say_118 ?_
            refine lv_bipush (v := (40)) hx hb dX8_say_119 (by decide) ?_
            refine lv_icmp_ne (tgt := 127) hx hb dX8_say_121 (by decide) (fun hc => ?_) (fun hc => ?_)
            · have h := h.1 hc
              refine lv_aload_n hx hb dX8_say_127 rfl (lv_at hl 4 rfl) ?_
              refine va_get (D := D) (ci := 7) (v := .ref (a 5)) (C := RX8) (T := TX8) (N := 17) hx hb hts hi_X8_say_X8 hown hK.1 hP 0 rfl rfl 4 (by decide) (hts _ k_X8_say_4) (fun _ h9 => h9) rfl dX8_say_128 ?_
              refine lv_iconst (v := (3)) hx hb dX8_say_131 (by decide) ?_
              refine lv_iload hx hb dX8_say_132 (lv_at hl 0 rfl) ?_
              refine lv_iadd hx hb dX8_say_134 ?_
              refine lv_iload_n hx hb dX8_say_135 rfl (lv_at hl 5 rfl) ?_
              obtain ⟨hi, h⟩ := h
              refine x_iast (ws' := W_X8 ca a rowSizes rows textSizes texts (upd now (((3 : Int32) + (now 0)).toNatClampNeg) kind) keeps kept asked upper lower finding findings read at_ costs ways reach) hx hb hK hP hD hS 5 rfl hi (k := (((3 : Int32) + (now 0)).toNatClampNeg)) rfl rfl dX8_say_136 (fun H locs hP hD hS => ?_)
              refine lv_aload_n hx hb dX8_say_137 rfl (lv_at hl 4 rfl) ?_
              refine va_get (D := D) (ci := 7) (v := .ref (a 5)) (C := RX8) (T := TX8) (N := 17) hx hb hts hi_X8_say_X8 hown hK.1 hP 0 rfl rfl 4 (by decide) (hts _ k_X8_say_4) (fun _ h9 => h9) rfl dX8_say_138 ?_
              refine lv_bipush (v := (15)) hx hb dX8_say_141 (by decide) ?_
              refine lv_iload hx hb dX8_say_143 (lv_at hl 0 rfl) ?_
              refine lv_iadd hx hb dX8_say_145 ?_
              refine lv_iload hx hb dX8_say_146 (lv_at hl 3 rfl) ?_
              obtain ⟨hi, h⟩ := h
              refine x_iast (ws' := W_X8 ca a rowSizes rows textSizes texts (upd (upd now (((3 : Int32) + (now 0)).toNatClampNeg) kind) (((15 : Int32) + (now 0)).toNatClampNeg) (told / (100 : Int32))) keeps kept asked upper lower finding findings read at_ costs ways reach) hx hb hK hP hD hS 5 rfl hi (k := (((15 : Int32) + (now 0)).toNatClampNeg)) rfl rfl dX8_say_148 (fun H locs hP hD hS => ?_)
              refine lv_aload_n hx hb dX8_say_149 rfl (lv_at hl 4 rfl) ?_
              refine va_get (D := D) (ci := 7) (v := .ref (a 5)) (C := RX8) (T := TX8) (N := 17) hx hb hts hi_X8_say_X8 hown hK.1 hP 0 rfl rfl 4 (by decide) (hts _ k_X8_say_4) (fun _ h9 => h9) rfl dX8_say_150 ?_
              refine lv_bipush (v := (27)) hx hb dX8_say_153 (by decide) ?_
              refine lv_iload hx hb dX8_say_155 (lv_at hl 0 rfl) ?_
              refine lv_iadd hx hb dX8_say_157 ?_
              refine lv_iload hx hb dX8_say_158 (lv_at hl 2 rfl) ?_
              obtain ⟨hi, h⟩ := h
              refine x_iast (ws' := W_X8 ca a rowSizes rows textSizes texts (upd (upd (upd now (((3 : Int32) + (now 0)).toNatClampNeg) kind) (((15 : Int32) + (now 0)).toNatClampNeg) (told / (100 : Int32))) (((27 : Int32) + (now 0)).toNatClampNeg) ((told / (10 : Int32)) - (told / (10 : Int32)) / (10 : Int32) * (10 : Int32))) keeps kept asked upper lower finding findings read at_ costs ways reach) hx hb hK hP hD hS 5 rfl hi (k := (((27 : Int32) + (now 0)).toNatClampNeg)) rfl rfl dX8_say_160 (fun H locs hP hD hS => ?_)
              refine lv_aload_n hx hb dX8_say_161 rfl (lv_at hl 4 rfl) ?_
              refine va_get (D := D) (ci := 7) (v := .ref (a 5)) (C := RX8) (T := TX8) (N := 17) hx hb hts hi_X8_say_X8 hown hK.1 hP 0 rfl rfl 4 (by decide) (hts _ k_X8_say_4) (fun _ h9 => h9) rfl dX8_say_162 ?_
              refine lv_bipush (v := (39)) hx hb dX8_say_165 (by decide) ?_
              refine lv_iload hx hb dX8_say_167 (lv_at hl 0 rfl) ?_
              refine lv_iadd hx hb dX8_say_169 ?_
              refine lv_iload hx hb dX8_say_170 (lv_at hl 1 rfl) ?_
              obtain ⟨hi, h⟩ := h
              refine x_iast (ws' := W_X8 ca a rowSizes rows textSizes texts (upd (upd (upd (upd now (((3 : Int32) + (now 0)).toNatClampNeg) kind) (((15 : Int32) + (now 0)).toNatClampNeg) (told / (100 : Int32))) (((27 : Int32) + (now 0)).toNatClampNeg) ((told / (10 : Int32)) - (told / (10 : Int32)) / (10 : Int32) * (10 : Int32))) (((39 : Int32) + (now 0)).toNatClampNeg) (told - told / (10 : Int32) * (10 : Int32))) keeps kept asked upper lower finding findings read at_ costs ways reach) hx hb hK hP hD hS 5 rfl hi (k := (((39 : Int32) + (now 0)).toNatClampNeg)) rfl rfl dX8_say_172 (fun H locs hP hD hS => ?_)
              refine lv_aload_n hx hb dX8_say_173 rfl (lv_at hl 4 rfl) ?_
              refine va_get (D := D) (ci := 7) (v := .ref (a 5)) (C := RX8) (T := TX8) (N := 17) hx hb hts hi_X8_say_X8 hown hK.1 hP 0 rfl rfl 4 (by decide) (hts _ k_X8_say_4) (fun _ h9 => h9) rfl dX8_say_174 ?_
              refine lv_bipush (v := (51)) hx hb dX8_say_177 (by decide) ?_
              refine lv_iload hx hb dX8_say_179 (lv_at hl 0 rfl) ?_
              refine lv_iadd hx hb dX8_say_181 ?_
              refine lv_iload_n hx hb dX8_say_182 rfl (lv_at hl 7 rfl) ?_
              obtain ⟨hi, h⟩ := h
              refine x_iast (ws' := W_X8 ca a rowSizes rows textSizes texts (upd (upd (upd (upd (upd now (((3 : Int32) + (now 0)).toNatClampNeg) kind) (((15 : Int32) + (now 0)).toNatClampNeg) (told / (100 : Int32))) (((27 : Int32) + (now 0)).toNatClampNeg) ((told / (10 : Int32)) - (told / (10 : Int32)) / (10 : Int32) * (10 : Int32))) (((39 : Int32) + (now 0)).toNatClampNeg) (told - told / (10 : Int32) * (10 : Int32))) (((51 : Int32) + (now 0)).toNatClampNeg) weight) keeps kept asked upper lower finding findings read at_ costs ways reach) hx hb hK hP hD hS 5 rfl hi (k := (((51 : Int32) + (now 0)).toNatClampNeg)) rfl rfl dX8_say_183 (fun H locs hP hD hS => ?_)
              refine lv_aload_n hx hb dX8_say_184 rfl (lv_at hl 4 rfl) ?_
              refine va_get (D := D) (ci := 7) (v := .ref (a 5)) (C := RX8) (T := TX8) (N := 17) hx hb hts hi_X8_say_X8 hown hK.1 hP 0 rfl rfl 4 (by decide) (hts _ k_X8_say_4) (fun _ h9 => h9) rfl dX8_say_185 ?_
              refine lv_bipush (v := (63)) hx hb dX8_say_188 (by decide) ?_
              refine lv_iload hx hb dX8_say_190 (lv_at hl 0 rfl) ?_
              refine lv_iadd hx hb dX8_say_192 ?_
              refine lv_iload hx hb dX8_say_193 (lv_at hl 8 rfl) ?_
              obtain ⟨hi, h⟩ := h
              refine x_iast (ws' := W_X8 ca a rowSizes rows textSizes texts (upd (upd (upd (upd (upd (upd now (((3 : Int32) + (now 0)).toNatClampNeg) kind) (((15 : Int32) + (now 0)).toNatClampNeg) (told / (100 : Int32))) (((27 : Int32) + (now 0)).toNatClampNeg) ((told / (10 : Int32)) - (told / (10 : Int32)) / (10 : Int32) * (10 : Int32))) (((39 : Int32) + (now 0)).toNatClampNeg) (told - told / (10 : Int32) * (10 : Int32))) (((51 : Int32) + (now 0)).toNatClampNeg) weight) (((63 : Int32) + (now 0)).toNatClampNeg) answers) keeps kept asked upper lower finding findings read at_ costs ways reach) hx hb hK hP hD hS 5 rfl hi (k := (((63 : Int32) + (now 0)).toNatClampNeg)) rfl rfl dX8_say_195 (fun H locs hP hD hS => ?_)
              refine lv_aload_n hx hb dX8_say_196 rfl (lv_at hl 4 rfl) ?_
              refine va_get (D := D) (ci := 7) (v := .ref (a 5)) (C := RX8) (T := TX8) (N := 17) hx hb hts hi_X8_say_X8 hown hK.1 hP 0 rfl rfl 4 (by decide) (hts _ k_X8_say_4) (fun _ h9 => h9) rfl dX8_say_197 ?_
              refine lv_iconst (v := (2)) hx hb dX8_say_200 (by decide) ?_
              refine lv_dup2_11 hx hb dX8_say_201 rfl rfl ?_
              refine x_iald (v := (upd (upd (upd (upd (upd (upd now (((3 : Int32) + (now 0)).toNatClampNeg) kind) (((15 : Int32) + (now 0)).toNatClampNeg) (told / (100 : Int32))) (((27 : Int32) + (now 0)).toNatClampNeg) ((told / (10 : Int32)) - (told / (10 : Int32)) / (10 : Int32) * (10 : Int32))) (((39 : Int32) + (now 0)).toNatClampNeg) (told - told / (10 : Int32) * (10 : Int32))) (((51 : Int32) + (now 0)).toNatClampNeg) weight) (((63 : Int32) + (now 0)).toNatClampNeg) answers) 2) hx hb hK hP 5 rfl (vin_lit (by decide)) rfl dX8_say_202 ?_
              refine lv_iconst (v := (1)) hx hb dX8_say_203 (by decide) ?_
              refine lv_iload hx hb dX8_say_204 (lv_at hl 0 rfl) ?_
              refine lv_ishl hx hb dX8_say_206 ?_
              refine lv_ior hx hb dX8_say_207 ?_
              refine x_iast (ws' := W_X8 ca a rowSizes rows textSizes texts (upd (upd (upd (upd (upd (upd (upd now (((3 : Int32) + (now 0)).toNatClampNeg) kind) (((15 : Int32) + (now 0)).toNatClampNeg) (told / (100 : Int32))) (((27 : Int32) + (now 0)).toNatClampNeg) ((told / (10 : Int32)) - (told / (10 : Int32)) / (10 : Int32) * (10 : Int32))) (((39 : Int32) + (now 0)).toNatClampNeg) (told - told / (10 : Int32) * (10 : Int32))) (((51 : Int32) + (now 0)).toNatClampNeg) weight) (((63 : Int32) + (now 0)).toNatClampNeg) answers) 2 (((upd (upd (upd (upd (upd (upd now (((3 : Int32) + (now 0)).toNatClampNeg) kind) (((15 : Int32) + (now 0)).toNatClampNeg) (told / (100 : Int32))) (((27 : Int32) + (now 0)).toNatClampNeg) ((told / (10 : Int32)) - (told / (10 : Int32)) / (10 : Int32) * (10 : Int32))) (((39 : Int32) + (now 0)).toNatClampNeg) (told - told / (10 : Int32) * (10 : Int32))) (((51 : Int32) + (now 0)).toNatClampNeg) weight) (((63 : Int32) + (now 0)).toNatClampNeg) answers) 2) ||| ((1 : Int32) <<< ((now 0) &&& 31)))) keeps kept asked upper lower finding findings read at_ costs ways reach) hx hb hK hP hD hS 5 rfl (vin_lit (by decide)) (k := 2) rfl rfl dX8_say_208 (fun H locs hP hD hS => ?_)
              refine lv_aload_n hx hb dX8_say_209 rfl (lv_at hl 4 rfl) ?_
              refine va_get (D := D) (ci := 7) (v := .ref (a 5)) (C := RX8) (T := TX8) (N := 17) hx hb hts hi_X8_say_X8 hown hK.1 hP 0 rfl rfl 4 (by decide) (hts _ k_X8_say_4) (fun _ h9 => h9) rfl dX8_say_210 ?_
              refine lv_iconst (v := (0)) hx hb dX8_say_213 (by decide) ?_
              refine lv_dup2_11 hx hb dX8_say_214 rfl rfl ?_
              refine x_iald (v := (upd (upd (upd (upd (upd (upd (upd now (((3 : Int32) + (now 0)).toNatClampNeg) kind) (((15 : Int32) + (now 0)).toNatClampNeg) (told / (100 : Int32))) (((27 : Int32) + (now 0)).toNatClampNeg) ((told / (10 : Int32)) - (told / (10 : Int32)) / (10 : Int32) * (10 : Int32))) (((39 : Int32) + (now 0)).toNatClampNeg) (told - told / (10 : Int32) * (10 : Int32))) (((51 : Int32) + (now 0)).toNatClampNeg) weight) (((63 : Int32) + (now 0)).toNatClampNeg) answers) 2 (((upd (upd (upd (upd (upd (upd now (((3 : Int32) + (now 0)).toNatClampNeg) kind) (((15 : Int32) + (now 0)).toNatClampNeg) (told / (100 : Int32))) (((27 : Int32) + (now 0)).toNatClampNeg) ((told / (10 : Int32)) - (told / (10 : Int32)) / (10 : Int32) * (10 : Int32))) (((39 : Int32) + (now 0)).toNatClampNeg) (told - told / (10 : Int32) * (10 : Int32))) (((51 : Int32) + (now 0)).toNatClampNeg) weight) (((63 : Int32) + (now 0)).toNatClampNeg) answers) 2) ||| ((1 : Int32) <<< ((now 0) &&& 31)))) 0) hx hb hK hP 5 rfl (vin_lit (by decide)) rfl dX8_say_215 ?_
              refine lv_iconst (v := (1)) hx hb dX8_say_216 (by decide) ?_
              refine lv_iadd hx hb dX8_say_217 ?_
              refine x_iast (ws' := W_X8 ca a rowSizes rows textSizes texts (upd (upd (upd (upd (upd (upd (upd (upd now (((3 : Int32) + (now 0)).toNatClampNeg) kind) (((15 : Int32) + (now 0)).toNatClampNeg) (told / (100 : Int32))) (((27 : Int32) + (now 0)).toNatClampNeg) ((told / (10 : Int32)) - (told / (10 : Int32)) / (10 : Int32) * (10 : Int32))) (((39 : Int32) + (now 0)).toNatClampNeg) (told - told / (10 : Int32) * (10 : Int32))) (((51 : Int32) + (now 0)).toNatClampNeg) weight) (((63 : Int32) + (now 0)).toNatClampNeg) answers) 2 (((upd (upd (upd (upd (upd (upd now (((3 : Int32) + (now 0)).toNatClampNeg) kind) (((15 : Int32) + (now 0)).toNatClampNeg) (told / (100 : Int32))) (((27 : Int32) + (now 0)).toNatClampNeg) ((told / (10 : Int32)) - (told / (10 : Int32)) / (10 : Int32) * (10 : Int32))) (((39 : Int32) + (now 0)).toNatClampNeg) (told - told / (10 : Int32) * (10 : Int32))) (((51 : Int32) + (now 0)).toNatClampNeg) weight) (((63 : Int32) + (now 0)).toNatClampNeg) answers) 2) ||| ((1 : Int32) <<< ((now 0) &&& 31)))) 0 (((upd (upd (upd (upd (upd (upd (upd now (((3 : Int32) + (now 0)).toNatClampNeg) kind) (((15 : Int32) + (now 0)).toNatClampNeg) (told / (100 : Int32))) (((27 : Int32) + (now 0)).toNatClampNeg) ((told / (10 : Int32)) - (told / (10 : Int32)) / (10 : Int32) * (10 : Int32))) (((39 : Int32) + (now 0)).toNatClampNeg) (told - told / (10 : Int32) * (10 : Int32))) (((51 : Int32) + (now 0)).toNatClampNeg) weight) (((63 : Int32) + (now 0)).toNatClampNeg) answers) 2 (((upd (upd (upd (upd (upd (upd now (((3 : Int32) + (now 0)).toNatClampNeg) kind) (((15 : Int32) + (now 0)).toNatClampNeg) (told / (100 : Int32))) (((27 : Int32) + (now 0)).toNatClampNeg) ((told / (10 : Int32)) - (told / (10 : Int32)) / (10 : Int32) * (10 : Int32))) (((39 : Int32) + (now 0)).toNatClampNeg) (told - told / (10 : Int32) * (10 : Int32))) (((51 : Int32) + (now 0)).toNatClampNeg) weight) (((63 : Int32) + (now 0)).toNatClampNeg) answers) 2) ||| ((1 : Int32) <<< ((now 0) &&& 31)))) 0) + (1 : Int32))) keeps kept asked upper lower finding findings read at_ costs ways reach) hx hb hK hP hD hS 5 rfl (vin_lit (by decide)) (k := 0) rfl rfl dX8_say_218 (fun H locs hP hD hS => ?_)
              refine lv_aload_n hx hb dX8_say_219 rfl (lv_at hl 4 rfl) ?_
              refine lv_bipush (v := (100)) hx hb dX8_say_220 (by decide) ?_
              refine lv_iload hx hb dX8_say_222 (lv_at hl 0 rfl) ?_
              refine lv_iadd hx hb dX8_say_224 ?_
              refine wr_callv (ws1 := fun zu => W_X8 ca a rowSizes rows textSizes texts zu keeps kept asked upper lower finding findings read at_ costs ways reach) (wr := ([] : List Nat).filterMap (fun zi => (W_X8 ca a rowSizes rows textSizes texts (upd (upd (upd (upd (upd (upd (upd (upd now (((3 : Int32) + (now 0)).toNatClampNeg) kind) (((15 : Int32) + (now 0)).toNatClampNeg) (told / (100 : Int32))) (((27 : Int32) + (now 0)).toNatClampNeg) ((told / (10 : Int32)) - (told / (10 : Int32)) / (10 : Int32) * (10 : Int32))) (((39 : Int32) + (now 0)).toNatClampNeg) (told - told / (10 : Int32) * (10 : Int32))) (((51 : Int32) + (now 0)).toNatClampNeg) weight) (((63 : Int32) + (now 0)).toNatClampNeg) answers) 2 (((upd (upd (upd (upd (upd (upd now (((3 : Int32) + (now 0)).toNatClampNeg) kind) (((15 : Int32) + (now 0)).toNatClampNeg) (told / (100 : Int32))) (((27 : Int32) + (now 0)).toNatClampNeg) ((told / (10 : Int32)) - (told / (10 : Int32)) / (10 : Int32) * (10 : Int32))) (((39 : Int32) + (now 0)).toNatClampNeg) (told - told / (10 : Int32) * (10 : Int32))) (((51 : Int32) + (now 0)).toNatClampNeg) weight) (((63 : Int32) + (now 0)).toNatClampNeg) answers) 2) ||| ((1 : Int32) <<< ((now 0) &&& 31)))) 0 (((upd (upd (upd (upd (upd (upd (upd now (((3 : Int32) + (now 0)).toNatClampNeg) kind) (((15 : Int32) + (now 0)).toNatClampNeg) (told / (100 : Int32))) (((27 : Int32) + (now 0)).toNatClampNeg) ((told / (10 : Int32)) - (told / (10 : Int32)) / (10 : Int32) * (10 : Int32))) (((39 : Int32) + (now 0)).toNatClampNeg) (told - told / (10 : Int32) * (10 : Int32))) (((51 : Int32) + (now 0)).toNatClampNeg) weight) (((63 : Int32) + (now 0)).toNatClampNeg) answers) 2 (((upd (upd (upd (upd (upd (upd now (((3 : Int32) + (now 0)).toNatClampNeg) kind) (((15 : Int32) + (now 0)).toNatClampNeg) (told / (100 : Int32))) (((27 : Int32) + (now 0)).toNatClampNeg) ((told / (10 : Int32)) - (told / (10 : Int32)) / (10 : Int32) * (10 : Int32))) (((39 : Int32) + (now 0)).toNatClampNeg) (told - told / (10 : Int32) * (10 : Int32))) (((51 : Int32) + (now 0)).toNatClampNeg) weight) (((63 : Int32) + (now 0)).toNatClampNeg) answers) 2) ||| ((1 : Int32) <<< ((now 0) &&& 31)))) 0) + (1 : Int32))) keeps kept asked upper lower finding findings read at_ costs ways reach : va_W)[zi]?)) (n := 13) (va_runV (As := [.int ((100 : Int32) + (now 0))]) (rest := []) ⟨hx, hb, hml, hown, hts⟩ (c_X8_does l D ca a rowSizes rows textSizes texts (upd (upd (upd (upd (upd (upd (upd (upd now (((3 : Int32) + (now 0)).toNatClampNeg) kind) (((15 : Int32) + (now 0)).toNatClampNeg) (told / (100 : Int32))) (((27 : Int32) + (now 0)).toNatClampNeg) ((told / (10 : Int32)) - (told / (10 : Int32)) / (10 : Int32) * (10 : Int32))) (((39 : Int32) + (now 0)).toNatClampNeg) (told - told / (10 : Int32) * (10 : Int32))) (((51 : Int32) + (now 0)).toNatClampNeg) weight) (((63 : Int32) + (now 0)).toNatClampNeg) answers) 2 (((upd (upd (upd (upd (upd (upd now (((3 : Int32) + (now 0)).toNatClampNeg) kind) (((15 : Int32) + (now 0)).toNatClampNeg) (told / (100 : Int32))) (((27 : Int32) + (now 0)).toNatClampNeg) ((told / (10 : Int32)) - (told / (10 : Int32)) / (10 : Int32) * (10 : Int32))) (((39 : Int32) + (now 0)).toNatClampNeg) (told - told / (10 : Int32) * (10 : Int32))) (((51 : Int32) + (now 0)).toNatClampNeg) weight) (((63 : Int32) + (now 0)).toNatClampNeg) answers) 2) ||| ((1 : Int32) <<< ((now 0) &&& 31)))) 0 (((upd (upd (upd (upd (upd (upd (upd now (((3 : Int32) + (now 0)).toNatClampNeg) kind) (((15 : Int32) + (now 0)).toNatClampNeg) (told / (100 : Int32))) (((27 : Int32) + (now 0)).toNatClampNeg) ((told / (10 : Int32)) - (told / (10 : Int32)) / (10 : Int32) * (10 : Int32))) (((39 : Int32) + (now 0)).toNatClampNeg) (told - told / (10 : Int32) * (10 : Int32))) (((51 : Int32) + (now 0)).toNatClampNeg) weight) (((63 : Int32) + (now 0)).toNatClampNeg) answers) 2 (((upd (upd (upd (upd (upd (upd now (((3 : Int32) + (now 0)).toNatClampNeg) kind) (((15 : Int32) + (now 0)).toNatClampNeg) (told / (100 : Int32))) (((27 : Int32) + (now 0)).toNatClampNeg) ((told / (10 : Int32)) - (told / (10 : Int32)) / (10 : Int32) * (10 : Int32))) (((39 : Int32) + (now 0)).toNatClampNeg) (told - told / (10 : Int32) * (10 : Int32))) (((51 : Int32) + (now 0)).toNatClampNeg) weight) (((63 : Int32) + (now 0)).toNatClampNeg) answers) 2) ||| ((1 : Int32) <<< ((now 0) &&& 31)))) 0) + (1 : Int32))) keeps kept asked upper lower finding findings read at_ costs ways reach ((100 : Int32) + (now 0)) _ (hD.subM [0, 1, 2, 3, 4, 5, 6, 7, 8, 9, 10, 11, 12] (by decide) rfl) h) (cwV 1 hts gX8_say_X8_does rfl rfl rfl (by decide +kernel) ⟨Nat.le_of_ble_eq_true rfl, Nat.le_of_ble_eq_true rfl⟩) (PcX.preV (q := (RX8, TX8, 17)) (ci := 7) (q0 := 0) hK hP rfl rfl hP) rfl rfl hl.1 rfl (lv_room (Nat.le_of_ble_eq_true rfl)) dX8_say_225 ⟨Nat.le_of_ble_eq_true rfl, Nat.le_of_ble_eq_true rfl⟩) hP hD hS [0, 1, 2, 3, 4, 5, 6, 7, 8, 9, 10, 11, 12] [] rfl (fun _ => rfl) rfl (fun _ => rfl) (fun _ => rfl) (fun _ => rfl) (by decide +kernel) (by decide +kernel) (fun zu H locs h hP hD hS => ?_)
              obtain ⟨now_5, rfl⟩ : ∃ zz, zz = zu := ⟨zu, rfl⟩
              have hP : va_P D vwCl (W_X8 ca a rowSizes rows textSizes texts now_5 keeps kept asked upper lower finding findings read at_ costs ways reach) H := hP
              have hD : va_D _ (W_X8 ca a rowSizes rows textSizes texts now_5 keeps kept asked upper lower finding findings read at_ costs ways reach) := hD
              try dsimp only at h
              refine lv_iload hx hb dX8_say_228 (lv_at hl 0 rfl) ?_
              exact W.iret (v := now 0) hx hb hr (fun zt ht hW => ⟨⟨now 0, now_5, rfl, h, by rw [ht]; exact hP⟩, hS.F ht⟩) hS.2.2 dX8_say_230
            · have h := h.2 hc
              refine lv_bipush (v := (-2)) hx hb dX8_say_124 (by decide) ?_
              exact W.iret (v := (-2 : Int32)) hx hb hr (fun zt ht hW => ⟨⟨(-2 : Int32), now, rfl, h, by rw [ht]; exact hP⟩, hS.F ht⟩) hS.2.2 dX8_say_126
        · have h := h.2 hc
          refine lv_iconst (v := (-1)) hx hb dX8_say_96 (by decide) ?_
          exact W.iret (v := (-1 : Int32)) hx hb hr (fun zt ht hW => ⟨⟨(-1 : Int32), now, rfl, h, by rw [ht]; exact hP⟩, hS.F ht⟩) hS.2.2 dX8_say_97
  unfold wp_X8_say at h
  refine lv_iload_n hx hb dX8_say_0 rfl (lv_at hl 1 rfl) ?_
  refine lv_i2l hx hb dX8_say_1 rfl ?_
  refine lv_lconst (v := (0)) hx hb dX8_say_2 (by decide) ?_
  refine lv_ldc2 (v := (5)) hx hb hown (hts _ k_X8_say_1) dX8_say_3 ?_
  refine rd_callz (va_runS (As := [.long kind.toInt64, .long (0 : Int64), .long (5 : Int64)]) (rest := []) ⟨hx, hb, hml, hown, hts⟩ (c_X8_in l D ca   kind.toInt64 (0 : Int64) (5 : Int64) _ h) (va_cwS 3 hts gX8_say_X8_in rfl rfl rfl (by decide +kernel) ⟨Nat.le_of_ble_eq_true rfl, Nat.le_of_ble_eq_true rfl⟩) (PcX.preS hK (fun zk zq zh => by simp at zh)) rfl rfl hl.1 rfl (lv_room (Nat.le_of_ble_eq_true rfl)) dX8_say_6 ⟨Nat.le_of_ble_eq_true rfl, Nat.le_of_ble_eq_true rfl⟩) (fun r1 h hz_r1 => ?_)
  try dsimp only at h
  refine lv_if_eq (tgt := 52) hx hb dX8_say_9 (by decide) (fun hc => ?_) (fun hc => ?_)
  · have h := h.1 hc
    refine lv_iconst (v := (-1)) hx hb dX8_say_52 (by decide) ?_
    exact W.iret (v := (-1 : Int32)) hx hb hr (fun zt ht hW => ⟨⟨(-1 : Int32), now, rfl, h, by rw [ht]; exact hP⟩, hS.F ht⟩) hS.2.2 dX8_say_53
  · have h := h.2 hc
    refine lv_iload_n hx hb dX8_say_12 rfl (lv_at hl 2 rfl) ?_
    refine lv_i2l hx hb dX8_say_13 rfl ?_
    refine lv_lconst (v := (0)) hx hb dX8_say_14 (by decide) ?_
    refine lv_ldc2 (v := (555)) hx hb hown (hts _ k_X8_say_2) dX8_say_15 ?_
    refine rd_callz (va_runS (As := [.long told.toInt64, .long (0 : Int64), .long (555 : Int64)]) (rest := []) ⟨hx, hb, hml, hown, hts⟩ (c_X8_in l D ca   told.toInt64 (0 : Int64) (555 : Int64) _ h) (va_cwS 3 hts gX8_say_X8_in rfl rfl rfl (by decide +kernel) ⟨Nat.le_of_ble_eq_true rfl, Nat.le_of_ble_eq_true rfl⟩) (PcX.preS hK (fun zk zq zh => by simp at zh)) rfl rfl hl.1 rfl (lv_room (Nat.le_of_ble_eq_true rfl)) dX8_say_18 ⟨Nat.le_of_ble_eq_true rfl, Nat.le_of_ble_eq_true rfl⟩) (fun r2 h hz_r2 => ?_)
    try dsimp only at h
    refine lv_if_eq (tgt := 52) hx hb dX8_say_21 (by decide) (fun hc => ?_) (fun hc => ?_)
    · have h := h.1 hc
      refine lv_iconst (v := (-1)) hx hb dX8_say_52 (by decide) ?_
      exact W.iret (v := (-1 : Int32)) hx hb hr (fun zt ht hW => ⟨⟨(-1 : Int32), now, rfl, h, by rw [ht]; exact hP⟩, hS.F ht⟩) hS.2.2 dX8_say_53
    · have h := h.2 hc
      refine lv_iload_n hx hb dX8_say_24 rfl (lv_at hl 3 rfl) ?_
      refine lv_i2l hx hb dX8_say_25 rfl ?_
      refine lv_lconst (v := (1)) hx hb dX8_say_26 (by decide) ?_
      refine lv_ldc2 (v := (9)) hx hb hown (hts _ k_X8_say_3) dX8_say_27 ?_
      refine rd_callz (va_runS (As := [.long weight.toInt64, .long (1 : Int64), .long (9 : Int64)]) (rest := []) ⟨hx, hb, hml, hown, hts⟩ (c_X8_in l D ca   weight.toInt64 (1 : Int64) (9 : Int64) _ h) (va_cwS 3 hts gX8_say_X8_in rfl rfl rfl (by decide +kernel) ⟨Nat.le_of_ble_eq_true rfl, Nat.le_of_ble_eq_true rfl⟩) (PcX.preS hK (fun zk zq zh => by simp at zh)) rfl rfl hl.1 rfl (lv_room (Nat.le_of_ble_eq_true rfl)) dX8_say_30 ⟨Nat.le_of_ble_eq_true rfl, Nat.le_of_ble_eq_true rfl⟩) (fun r3 h hz_r3 => ?_)
      try dsimp only at h
      refine lv_if_eq (tgt := 52) hx hb dX8_say_33 (by decide) (fun hc => ?_) (fun hc => ?_)
      · have h := h.1 hc
        refine lv_iconst (v := (-1)) hx hb dX8_say_52 (by decide) ?_
        exact W.iret (v := (-1 : Int32)) hx hb hr (fun zt ht hW => ⟨⟨(-1 : Int32), now, rfl, h, by rw [ht]; exact hP⟩, hS.F ht⟩) hS.2.2 dX8_say_53
      · have h := h.2 hc
        refine lv_iload hx hb dX8_say_36 (lv_at hl 4 rfl) ?_
        refine lv_bipush (v := (-9)) hx hb dX8_say_38 (by decide) ?_
        refine lv_icmp_eq (tgt := 54) hx hb dX8_say_40 (by decide) (fun hc => ?_) (fun hc => ?_)
        · have h := h.1 hc
          exact w_54  now h _ _ hP hD hS ls (lv_sub hl [0, 1, 2, 3, 4] rfl)
        · have h := h.2 hc
          refine lv_aload_n hx hb dX8_say_43 rfl (lv_at hl 0 rfl) ?_
          refine lv_iload hx hb dX8_say_44 (lv_at hl 4 rfl) ?_
          refine rd_callz (va_runV (As := [.int answers]) (rest := []) ⟨hx, hb, hml, hown, hts⟩ (c_X8_isSaying l D ca a rowSizes rows textSizes texts now keeps kept asked upper lower finding findings read at_ costs ways reach answers _ h) (cwV 1 hts gX8_say_X8_isSaying rfl rfl rfl (by decide +kernel) ⟨Nat.le_of_ble_eq_true rfl, Nat.le_of_ble_eq_true rfl⟩) (PcX.preV (q := (RX8, TX8, 17)) (ci := 7) (q0 := 0) hK hP rfl rfl hP) rfl rfl hl.1 rfl (lv_room (Nat.le_of_ble_eq_true rfl)) dX8_say_46 ⟨Nat.le_of_ble_eq_true rfl, Nat.le_of_ble_eq_true rfl⟩) (fun r6 h hz_r6 => ?_)
          try dsimp only at h
          refine lv_if_ne (tgt := 54) hx hb dX8_say_49 (by decide) (fun hc => ?_) (fun hc => ?_)
          · have h := h.1 hc
            exact w_54  now h _ _ hP hD hS ls (lv_sub hl [0, 1, 2, 3, 4] rfl)
          · have h := h.2 hc
            refine lv_iconst (v := (-1)) hx hb dX8_say_52 (by decide) ?_
            exact W.iret (v := (-1 : Int32)) hx hb hr (fun zt ht hW => ⟨⟨(-1 : Int32), now, rfl, h, by rw [ht]; exact hP⟩, hS.F ht⟩) hS.2.2 dX8_say_53

-- IronedQuarrelsModel.unsays(I)I
def wp_X8_unsays (now : Nat → Int32) (i : Int32) (post : Int32 → (Nat → Int32) → Prop) : Prop :=
  wp_X8_price now i (now 2) (fun r1 => wp_X8_does (upd now 2 ((now 2) &&& (((1 : Int32) <<< (i &&& 31)) ^^^ (-1 : Int32)))) i (fun now_2 => post r1 now_2))
def rm_X8_unsays : Room := { frames := 3, cells := 0, slots := 0, locals := 70 }
theorem k_X8_unsays_1 : Cond.fieldLink RX8 22 "IronedQuarrelsModel" "now" "[I" ∈ wsX8_unsays := List.mem_of_getElem? (i := 1) (by decide +kernel)
theorem hi_X8_unsays_X8 : ∀ w ∈ wsX80, w ∈ wsX8_unsays := fun w h => List.mem_cons_of_mem _ (List.mem_append_right _ h)
set_option maxHeartbeats 4000000 in
set_option maxRecDepth 100000 in
theorem c_X8_unsays (l : Launch) (D : va_G) (ca : Nat → ClassId) (a : Nat → Nat) (rowSizes : Nat → Int32) (rows : Nat → Int32) (textSizes : Nat → Int32) (texts : Nat → Int32) (now : Nat → Int32) (keeps : Nat → Int32) (kept : Nat → Int32) (asked : Int32) (upper : Int64) (lower : Int64) (finding : Int32) (findings : Nat → Int32) (read : Nat → Int32) (at_ : Int32) (costs : Nat → Int32) (ways : Nat → Int64) (reach : Nat → Int32) (i : Int32) (post : Int32 → (Nat → Int32) → Prop) (hd : va_D (fun _ => True) (W_X8 ca a rowSizes rows textSizes texts now keeps kept asked upper lower finding findings read at_ costs ways reach)) (h : wp_X8_unsays now i post) : Met l yX8_unsays wsX8_unsays rm_X8_unsays (PcX D ca [.ref (a 0), .int i] (W_X8 ca a rowSizes rows textSizes texts now keeps kept asked upper lower finding findings read at_ costs ways reach)) (wrI (S := (Nat → Int32)) D (W_X8 ca a rowSizes rows textSizes texts now keeps kept asked upper lower finding findings read at_ costs ways reach) (fun zu => W_X8 ca a rowSizes rows textSizes texts zu keeps kept asked upper lower finding findings read at_ costs ways reach) (fun zr zu => post zr zu)) 0 0 (adr (W_X8 ca a rowSizes rows textSizes texts now keeps kept asked upper lower finding findings read at_ costs ways reach)) := by
  refine Met.ofW (cc := cX8_unsays) (maxL := 3) (ret := (some .int)) (by decide) rfl ?_
  intro zp ze zs zm za zb zt zc z1 B hml hv
  obtain ⟨rfl, hP, hK⟩ := hv
  have hx := B.exec
  have hb := B.bytes
  have hr := B.returns
  have hts := atoms_spec (ws := wsX8_unsays) B.pre
  have hown : zs.vm.findClass RX8 = some zm.cls := findClass_of_methodNamed B.named
  have hlocks := B.notSynchronized
  have hD : va_D (adr (W_X8 ca a rowSizes rows textSizes texts now keeps kept asked upper lower finding findings read at_ costs ways reach)) (W_X8 ca a rowSizes rows textSizes texts now keeps kept asked upper lower finding findings read at_ costs ways reach) := hd.adr
  have hS : va_S (adr (W_X8 ca a rowSizes rows textSizes texts now keeps kept asked upper lower finding findings read at_ costs ways reach)) zs.heap zs.heap [] := va_S.rf
  have hl := lv_entry ([.ref (a 0), .int i]) (n := 3) (Nat.le_of_ble_eq_true rfl)
  rw [lg_entry_eq]
  generalize (lg_sl ([.ref (a 0), .int i]) ++ List.replicate (3 - (lg_sl ([.ref (a 0), .int i])).length) Slot.unset).toArray = ls at hl ⊢
  replace hl : lv_has ls 3 [(0, .ref (a 0)), (1, .int i)] := hl
  show W zp l ze rm_X8_unsays zs zm ([.ref (a 0), .int i] : List Value).toArray zb zt zc zs.heap [] 0 0 (MQ zb (wrI (S := (Nat → Int32)) D (W_X8 ca a rowSizes rows textSizes texts now keeps kept asked upper lower finding findings read at_ costs ways reach) (fun zu => W_X8 ca a rowSizes rows textSizes texts zu keeps kept asked upper lower finding findings read at_ costs ways reach) (fun zr zu => post zr zu)) ([.ref (a 0), .int i] : List Value).toArray zs 0 0 (adr (W_X8 ca a rowSizes rows textSizes texts now keeps kept asked upper lower finding findings read at_ costs ways reach))) (F0 zm 0 ls [])
  unfold wp_X8_unsays at h
  refine lv_aload_n hx hb dX8_unsays_0 rfl (lv_at hl 0 rfl) ?_
  refine lv_iload_n hx hb dX8_unsays_1 rfl (lv_at hl 1 rfl) ?_
  refine lv_aload_n hx hb dX8_unsays_2 rfl (lv_at hl 0 rfl) ?_
  refine va_get (D := D) (ci := 7) (v := .ref (a 5)) (C := RX8) (T := TX8) (N := 17) hx hb hts hi_X8_unsays_X8 hown hK.1 hP 0 rfl rfl 4 (by decide) (hts _ k_X8_unsays_1) (fun _ h9 => h9) rfl dX8_unsays_3 ?_
  refine lv_iconst (v := (2)) hx hb dX8_unsays_6 (by decide) ?_
  refine x_iald (v := now 2) hx hb hK hP 5 rfl (vin_lit (by decide)) rfl dX8_unsays_7 ?_
  refine rd_calli (va_runV (As := [.int i, .int (now 2)]) (rest := []) ⟨hx, hb, hml, hown, hts⟩ (c_X8_price l D ca a rowSizes rows textSizes texts now keeps kept asked upper lower finding findings read at_ costs ways reach i (now 2) _ h) (cwV 2 hts gX8_unsays_X8_price rfl rfl rfl (by decide +kernel) ⟨Nat.le_of_ble_eq_true rfl, Nat.le_of_ble_eq_true rfl⟩) (PcX.preV (q := (RX8, TX8, 17)) (ci := 7) (q0 := 0) hK hP rfl rfl hP) rfl rfl hl.1 rfl (lv_room (Nat.le_of_ble_eq_true rfl)) dX8_unsays_8 ⟨Nat.le_of_ble_eq_true rfl, Nat.le_of_ble_eq_true rfl⟩) (fun r1 h => ?_)
  try dsimp only at h
  refine lv_istore_n (lv' := [(2, .int r1), (0, .ref (a 0)), (1, .int i)]) hx hb dX8_unsays_11 rfl hl (by decide) rfl (fun ls hl => ?_)
  refine lv_aload_n hx hb dX8_unsays_12 rfl (lv_at hl 1 rfl) ?_
  refine va_get (D := D) (ci := 7) (v := .ref (a 5)) (C := RX8) (T := TX8) (N := 17) hx hb hts hi_X8_unsays_X8 hown hK.1 hP 0 rfl rfl 4 (by decide) (hts _ k_X8_unsays_1) (fun _ h9 => h9) rfl dX8_unsays_13 ?_
  refine lv_iconst (v := (2)) hx hb dX8_unsays_16 (by decide) ?_
  refine lv_dup2_11 hx hb dX8_unsays_17 rfl rfl ?_
  refine x_iald (v := now 2) hx hb hK hP 5 rfl (vin_lit (by decide)) rfl dX8_unsays_18 ?_
  refine lv_iconst (v := (1)) hx hb dX8_unsays_19 (by decide) ?_
  refine lv_iload_n hx hb dX8_unsays_20 rfl (lv_at hl 2 rfl) ?_
  refine lv_ishl hx hb dX8_unsays_21 ?_
  refine lv_iconst (v := (-1)) hx hb dX8_unsays_22 (by decide) ?_
  refine lv_ixor hx hb dX8_unsays_23 ?_
  refine lv_iand hx hb dX8_unsays_24 ?_
  refine x_iast (ws' := W_X8 ca a rowSizes rows textSizes texts (upd now 2 ((now 2) &&& (((1 : Int32) <<< (i &&& 31)) ^^^ (-1 : Int32)))) keeps kept asked upper lower finding findings read at_ costs ways reach) hx hb hK hP hD hS 5 rfl (vin_lit (by decide)) (k := 2) rfl rfl dX8_unsays_25 (fun H locs hP hD hS => ?_)
  refine lv_aload_n hx hb dX8_unsays_26 rfl (lv_at hl 1 rfl) ?_
  refine lv_iload_n hx hb dX8_unsays_27 rfl (lv_at hl 2 rfl) ?_
  refine wr_callv (ws1 := fun zu => W_X8 ca a rowSizes rows textSizes texts zu keeps kept asked upper lower finding findings read at_ costs ways reach) (wr := ([] : List Nat).filterMap (fun zi => (W_X8 ca a rowSizes rows textSizes texts (upd now 2 ((now 2) &&& (((1 : Int32) <<< (i &&& 31)) ^^^ (-1 : Int32)))) keeps kept asked upper lower finding findings read at_ costs ways reach : va_W)[zi]?)) (n := 13) (va_runV (As := [.int i]) (rest := []) ⟨hx, hb, hml, hown, hts⟩ (c_X8_does l D ca a rowSizes rows textSizes texts (upd now 2 ((now 2) &&& (((1 : Int32) <<< (i &&& 31)) ^^^ (-1 : Int32)))) keeps kept asked upper lower finding findings read at_ costs ways reach i _ (hD.subM [0, 1, 2, 3, 4, 5, 6, 7, 8, 9, 10, 11, 12] (by decide) rfl) h) (cwV 1 hts gX8_unsays_X8_does rfl rfl rfl (by decide +kernel) ⟨Nat.le_of_ble_eq_true rfl, Nat.le_of_ble_eq_true rfl⟩) (PcX.preV (q := (RX8, TX8, 17)) (ci := 7) (q0 := 0) hK hP rfl rfl hP) rfl rfl hl.1 rfl (lv_room (Nat.le_of_ble_eq_true rfl)) dX8_unsays_28 ⟨Nat.le_of_ble_eq_true rfl, Nat.le_of_ble_eq_true rfl⟩) hP hD hS [0, 1, 2, 3, 4, 5, 6, 7, 8, 9, 10, 11, 12] [] rfl (fun _ => rfl) rfl (fun _ => rfl) (fun _ => rfl) (fun _ => rfl) (by decide +kernel) (by decide +kernel) (fun zu H locs h hP hD hS => ?_)
  obtain ⟨now_2, rfl⟩ : ∃ zz, zz = zu := ⟨zu, rfl⟩
  have hP : va_P D vwCl (W_X8 ca a rowSizes rows textSizes texts now_2 keeps kept asked upper lower finding findings read at_ costs ways reach) H := hP
  have hD : va_D _ (W_X8 ca a rowSizes rows textSizes texts now_2 keeps kept asked upper lower finding findings read at_ costs ways reach) := hD
  try dsimp only at h
  refine lv_iload_n hx hb dX8_unsays_31 rfl (lv_at hl 0 rfl) ?_
  exact W.iret (v := r1) hx hb hr (fun zt ht hW => ⟨⟨r1, now_2, rfl, h, by rw [ht]; exact hP⟩, hS.F ht⟩) hS.2.2 dX8_unsays_32

-- IronedQuarrelsModel.unsay(I)I
def wp_X8_unsay (now : Nat → Int32) (i : Int32) (post : Int32 → (Nat → Int32) → Prop) : Prop :=
  wp_X8_isSaying now i (fun r1 => (¬ r1 = 0 → (wp_X8_mayBe now i (now 2) (fun r2 => (¬ r2 = 0 → ((¬ (now 1) = (40 : Int32) → (wp_X8_unsays now i (fun r3 now_4 => post r3 now_4))) ∧ ((now 1) = (40 : Int32) → (post (-2 : Int32) now)))) ∧ (r2 = 0 → (post (-4 : Int32) now))))) ∧ (r1 = 0 → (post (-1 : Int32) now)))
def rm_X8_unsay : Room := { frames := 4, cells := 0, slots := 0, locals := 92 }
theorem k_X8_unsay_1 : Cond.fieldLink RX8 22 "IronedQuarrelsModel" "now" "[I" ∈ wsX8_unsay := List.mem_of_getElem? (i := 1) (by decide +kernel)
theorem hi_X8_unsay_X8 : ∀ w ∈ wsX80, w ∈ wsX8_unsay := fun w h => List.mem_cons_of_mem _ (List.mem_append_right _ h)
set_option maxHeartbeats 4000000 in
set_option maxRecDepth 100000 in
theorem c_X8_unsay (l : Launch) (D : va_G) (ca : Nat → ClassId) (a : Nat → Nat) (rowSizes : Nat → Int32) (rows : Nat → Int32) (textSizes : Nat → Int32) (texts : Nat → Int32) (now : Nat → Int32) (keeps : Nat → Int32) (kept : Nat → Int32) (asked : Int32) (upper : Int64) (lower : Int64) (finding : Int32) (findings : Nat → Int32) (read : Nat → Int32) (at_ : Int32) (costs : Nat → Int32) (ways : Nat → Int64) (reach : Nat → Int32) (i : Int32) (post : Int32 → (Nat → Int32) → Prop) (hd : va_D (fun _ => True) (W_X8 ca a rowSizes rows textSizes texts now keeps kept asked upper lower finding findings read at_ costs ways reach)) (h : wp_X8_unsay now i post) : Met l yX8_unsay wsX8_unsay rm_X8_unsay (PcX D ca [.ref (a 0), .int i] (W_X8 ca a rowSizes rows textSizes texts now keeps kept asked upper lower finding findings read at_ costs ways reach)) (wrI (S := (Nat → Int32)) D (W_X8 ca a rowSizes rows textSizes texts now keeps kept asked upper lower finding findings read at_ costs ways reach) (fun zu => W_X8 ca a rowSizes rows textSizes texts zu keeps kept asked upper lower finding findings read at_ costs ways reach) (fun zr zu => post zr zu)) 0 0 (adr (W_X8 ca a rowSizes rows textSizes texts now keeps kept asked upper lower finding findings read at_ costs ways reach)) := by
  refine Met.ofW (cc := cX8_unsay) (maxL := 2) (ret := (some .int)) (by decide) rfl ?_
  intro zp ze zs zm za zb zt zc z1 B hml hv
  obtain ⟨rfl, hP, hK⟩ := hv
  have hx := B.exec
  have hb := B.bytes
  have hr := B.returns
  have hts := atoms_spec (ws := wsX8_unsay) B.pre
  have hown : zs.vm.findClass RX8 = some zm.cls := findClass_of_methodNamed B.named
  have hlocks := B.notSynchronized
  have hD : va_D (adr (W_X8 ca a rowSizes rows textSizes texts now keeps kept asked upper lower finding findings read at_ costs ways reach)) (W_X8 ca a rowSizes rows textSizes texts now keeps kept asked upper lower finding findings read at_ costs ways reach) := hd.adr
  have hS : va_S (adr (W_X8 ca a rowSizes rows textSizes texts now keeps kept asked upper lower finding findings read at_ costs ways reach)) zs.heap zs.heap [] := va_S.rf
  have hl := lv_entry ([.ref (a 0), .int i]) (n := 2) (Nat.le_of_ble_eq_true rfl)
  rw [lg_entry_eq]
  generalize (lg_sl ([.ref (a 0), .int i]) ++ List.replicate (2 - (lg_sl ([.ref (a 0), .int i])).length) Slot.unset).toArray = ls at hl ⊢
  replace hl : lv_has ls 2 [(0, .ref (a 0)), (1, .int i)] := hl
  show W zp l ze rm_X8_unsay zs zm ([.ref (a 0), .int i] : List Value).toArray zb zt zc zs.heap [] 0 0 (MQ zb (wrI (S := (Nat → Int32)) D (W_X8 ca a rowSizes rows textSizes texts now keeps kept asked upper lower finding findings read at_ costs ways reach) (fun zu => W_X8 ca a rowSizes rows textSizes texts zu keeps kept asked upper lower finding findings read at_ costs ways reach) (fun zr zu => post zr zu)) ([.ref (a 0), .int i] : List Value).toArray zs 0 0 (adr (W_X8 ca a rowSizes rows textSizes texts now keeps kept asked upper lower finding findings read at_ costs ways reach))) (F0 zm 0 ls [])
  unfold wp_X8_unsay at h
  refine lv_aload_n hx hb dX8_unsay_0 rfl (lv_at hl 0 rfl) ?_
  refine lv_iload_n hx hb dX8_unsay_1 rfl (lv_at hl 1 rfl) ?_
  refine rd_callz (va_runV (As := [.int i]) (rest := []) ⟨hx, hb, hml, hown, hts⟩ (c_X8_isSaying l D ca a rowSizes rows textSizes texts now keeps kept asked upper lower finding findings read at_ costs ways reach i _ h) (cwV 1 hts gX8_unsay_X8_isSaying rfl rfl rfl (by decide +kernel) ⟨Nat.le_of_ble_eq_true rfl, Nat.le_of_ble_eq_true rfl⟩) (PcX.preV (q := (RX8, TX8, 17)) (ci := 7) (q0 := 0) hK hP rfl rfl hP) rfl rfl hl.1 rfl (lv_room (Nat.le_of_ble_eq_true rfl)) dX8_unsay_2 ⟨Nat.le_of_ble_eq_true rfl, Nat.le_of_ble_eq_true rfl⟩) (fun r1 h hz_r1 => ?_)
  try dsimp only at h
  refine lv_if_ne (tgt := 10) hx hb dX8_unsay_5 (by decide) (fun hc => ?_) (fun hc => ?_)
  · have h := h.1 hc
    refine lv_aload_n hx hb dX8_unsay_10 rfl (lv_at hl 0 rfl) ?_
    refine lv_iload_n hx hb dX8_unsay_11 rfl (lv_at hl 1 rfl) ?_
    refine lv_aload_n hx hb dX8_unsay_12 rfl (lv_at hl 0 rfl) ?_
    refine va_get (D := D) (ci := 7) (v := .ref (a 5)) (C := RX8) (T := TX8) (N := 17) hx hb hts hi_X8_unsay_X8 hown hK.1 hP 0 rfl rfl 4 (by decide) (hts _ k_X8_unsay_1) (fun _ h9 => h9) rfl dX8_unsay_13 ?_
    refine lv_iconst (v := (2)) hx hb dX8_unsay_16 (by decide) ?_
    refine x_iald (v := now 2) hx hb hK hP 5 rfl (vin_lit (by decide)) rfl dX8_unsay_17 ?_
    refine rd_callz (va_runV (As := [.int i, .int (now 2)]) (rest := []) ⟨hx, hb, hml, hown, hts⟩ (c_X8_mayBe l D ca a rowSizes rows textSizes texts now keeps kept asked upper lower finding findings read at_ costs ways reach i (now 2) _ h) (cwV 2 hts gX8_unsay_X8_mayBe rfl rfl rfl (by decide +kernel) ⟨Nat.le_of_ble_eq_true rfl, Nat.le_of_ble_eq_true rfl⟩) (PcX.preV (q := (RX8, TX8, 17)) (ci := 7) (q0 := 0) hK hP rfl rfl hP) rfl rfl hl.1 rfl (lv_room (Nat.le_of_ble_eq_true rfl)) dX8_unsay_18 ⟨Nat.le_of_ble_eq_true rfl, Nat.le_of_ble_eq_true rfl⟩) (fun r2 h hz_r2 => ?_)
    try dsimp only at h
    refine lv_if_ne (tgt := 27) hx hb dX8_unsay_21 (by decide) (fun hc => ?_) (fun hc => ?_)
    · have h := h.1 hc
      refine lv_aload_n hx hb dX8_unsay_27 rfl (lv_at hl 0 rfl) ?_
      refine va_get (D := D) (ci := 7) (v := .ref (a 5)) (C := RX8) (T := TX8) (N := 17) hx hb hts hi_X8_unsay_X8 hown hK.1 hP 0 rfl rfl 4 (by decide) (hts _ k_X8_unsay_1) (fun _ h9 => h9) rfl dX8_unsay_28 ?_
      refine lv_iconst (v := (1)) hx hb dX8_unsay_31 (by decide) ?_
      refine x_iald (v := now 1) hx hb hK hP 5 rfl (vin_lit (by decide)) rfl dX8_unsay_32 ?_
      refine lv_bipush (v := (40)) hx hb dX8_unsay_33 (by decide) ?_
      refine lv_icmp_ne (tgt := 43) hx hb dX8_unsay_35 (by decide) (fun hc => ?_) (fun hc => ?_)
      · have h := h.1 hc
        refine lv_aload_n hx hb dX8_unsay_43 rfl (lv_at hl 0 rfl) ?_
        refine lv_iload_n hx hb dX8_unsay_44 rfl (lv_at hl 1 rfl) ?_
        refine wr_calli (ws1 := fun zu => W_X8 ca a rowSizes rows textSizes texts zu keeps kept asked upper lower finding findings read at_ costs ways reach) (wr := ([] : List Nat).filterMap (fun zi => (W_X8 ca a rowSizes rows textSizes texts now keeps kept asked upper lower finding findings read at_ costs ways reach : va_W)[zi]?)) (n := 13) (va_runV (As := [.int i]) (rest := []) ⟨hx, hb, hml, hown, hts⟩ (c_X8_unsays l D ca a rowSizes rows textSizes texts now keeps kept asked upper lower finding findings read at_ costs ways reach i _ (hD.subM [0, 1, 2, 3, 4, 5, 6, 7, 8, 9, 10, 11, 12] (by decide) rfl) h) (cwV 1 hts gX8_unsay_X8_unsays rfl rfl rfl (by decide +kernel) ⟨Nat.le_of_ble_eq_true rfl, Nat.le_of_ble_eq_true rfl⟩) (PcX.preV (q := (RX8, TX8, 17)) (ci := 7) (q0 := 0) hK hP rfl rfl hP) rfl rfl hl.1 rfl (lv_room (Nat.le_of_ble_eq_true rfl)) dX8_unsay_45 ⟨Nat.le_of_ble_eq_true rfl, Nat.le_of_ble_eq_true rfl⟩) hP hD hS [0, 1, 2, 3, 4, 5, 6, 7, 8, 9, 10, 11, 12] [] rfl (fun _ => rfl) rfl (fun _ => rfl) (fun _ => rfl) (fun _ => rfl) (by decide +kernel) (by decide +kernel) (fun r3 zu H locs h hP hD hS => ?_)
        obtain ⟨now_4, rfl⟩ : ∃ zz, zz = zu := ⟨zu, rfl⟩
        have hP : va_P D vwCl (W_X8 ca a rowSizes rows textSizes texts now_4 keeps kept asked upper lower finding findings read at_ costs ways reach) H := hP
        have hD : va_D _ (W_X8 ca a rowSizes rows textSizes texts now_4 keeps kept asked upper lower finding findings read at_ costs ways reach) := hD
        try dsimp only at h
        exact W.iret (v := r3) hx hb hr (fun zt ht hW => ⟨⟨r3, now_4, rfl, h, by rw [ht]; exact hP⟩, hS.F ht⟩) hS.2.2 dX8_unsay_48
      · have h := h.2 hc
        refine lv_bipush (v := (-2)) hx hb dX8_unsay_38 (by decide) ?_
        refine lv_goto (tgt := 48) hx hb dX8_unsay_40 (by decide) ?_
        exact W.iret (v := (-2 : Int32)) hx hb hr (fun zt ht hW => ⟨⟨(-2 : Int32), now, rfl, h, by rw [ht]; exact hP⟩, hS.F ht⟩) hS.2.2 dX8_unsay_48
    · have h := h.2 hc
      refine lv_bipush (v := (-4)) hx hb dX8_unsay_24 (by decide) ?_
      exact W.iret (v := (-4 : Int32)) hx hb hr (fun zt ht hW => ⟨⟨(-4 : Int32), now, rfl, h, by rw [ht]; exact hP⟩, hS.F ht⟩) hS.2.2 dX8_unsay_26
  · have h := h.2 hc
    refine lv_iconst (v := (-1)) hx hb dX8_unsay_8 (by decide) ?_
    exact W.iret (v := (-1 : Int32)) hx hb hr (fun zt ht hW => ⟨⟨(-1 : Int32), now, rfl, h, by rw [ht]; exact hP⟩, hS.F ht⟩) hS.2.2 dX8_unsay_9

-- IronedQuarrelsModel.undo(I)I
def wb_X8_undo_36 (n : Int32) (post : Int32 → (Nat → Int32) → Prop) (K36 : (Nat → Int32) → (Int32) → (Int32) → Prop) (now : Nat → Int32) (x2 : Int32) (x3 : Int32) : Prop :=
  (x3 < n → (post x2 (upd now 1 n))) ∧ (¬ x3 < n → (vp_in ((75 : Int32) + x3) 115 ∧ ((100 : Int32) ≤ (now ((75 : Int32) + x3).toNatClampNeg) → (K36 (upd (upd now 2 ((now 2) &&& (((1 : Int32) <<< (((now ((75 : Int32) + x3).toNatClampNeg) - (100 : Int32)) &&& 31)) ^^^ (-1 : Int32)))) 0 (((upd now 2 ((now 2) &&& (((1 : Int32) <<< (((now ((75 : Int32) + x3).toNatClampNeg) - (100 : Int32)) &&& 31)) ^^^ (-1 : Int32)))) 0) - (1 : Int32))) x2 (x3 + (-1)))) ∧ (¬ (100 : Int32) ≤ (now ((75 : Int32) + x3).toNatClampNeg) → (K36 (upd now 2 ((now 2) ||| ((1 : Int32) <<< ((now ((75 : Int32) + x3).toNatClampNeg) &&& 31)))) x2 (x3 + (-1))))))
def wl_X8_undo_36 (n : Int32) (post : Int32 → (Nat → Int32) → Prop) : Nat → (Nat → Int32) → (Int32) → (Int32) → Prop
  | 0 => fun _ _ _ => False
  | zn + 1 => wb_X8_undo_36 n post (wl_X8_undo_36 n post zn)
def wp_X8_undo (now : Nat → Int32) (n : Int32) (post : Int32 → (Nat → Int32) → Prop) : Prop :=
  wp_X8_in n.toInt64 (0 : Int64) ((now 1).toInt64) (fun r1 => (¬ r1 = 0 → (∃ zn, wl_X8_undo_36 n post zn now ((now 1) - n) ((now 1) - (1 : Int32)))) ∧ (r1 = 0 → (post (-1 : Int32) now)))
def rm_X8_undo : Room := { frames := 1, cells := 0, slots := 0, locals := 25 }
theorem k_X8_undo_1 : Cond.fieldLink RX8 22 "IronedQuarrelsModel" "now" "[I" ∈ wsX8_undo := List.mem_of_getElem? (i := 1) (by decide +kernel)
theorem hi_X8_undo_X8 : ∀ w ∈ wsX80, w ∈ wsX8_undo := fun w h => List.mem_cons_of_mem _ (List.mem_append_right _ h)
set_option maxHeartbeats 4000000 in
set_option maxRecDepth 100000 in
theorem c_X8_undo (l : Launch) (D : va_G) (ca : Nat → ClassId) (a : Nat → Nat) (rowSizes : Nat → Int32) (rows : Nat → Int32) (textSizes : Nat → Int32) (texts : Nat → Int32) (now : Nat → Int32) (keeps : Nat → Int32) (kept : Nat → Int32) (asked : Int32) (upper : Int64) (lower : Int64) (finding : Int32) (findings : Nat → Int32) (read : Nat → Int32) (at_ : Int32) (costs : Nat → Int32) (ways : Nat → Int64) (reach : Nat → Int32) (n : Int32) (post : Int32 → (Nat → Int32) → Prop) (hd : va_D (fun _ => True) (W_X8 ca a rowSizes rows textSizes texts now keeps kept asked upper lower finding findings read at_ costs ways reach)) (h : wp_X8_undo now n post) : Met l yX8_undo wsX8_undo rm_X8_undo (PcX D ca [.ref (a 0), .int n] (W_X8 ca a rowSizes rows textSizes texts now keeps kept asked upper lower finding findings read at_ costs ways reach)) (wrI (S := (Nat → Int32)) D (W_X8 ca a rowSizes rows textSizes texts now keeps kept asked upper lower finding findings read at_ costs ways reach) (fun zu => W_X8 ca a rowSizes rows textSizes texts zu keeps kept asked upper lower finding findings read at_ costs ways reach) (fun zr zu => post zr zu)) 0 0 (adr (W_X8 ca a rowSizes rows textSizes texts now keeps kept asked upper lower finding findings read at_ costs ways reach)) := by
  refine Met.ofW (cc := cX8_undo) (maxL := 5) (ret := (some .int)) (by decide) rfl ?_
  intro zp ze zs zm za zb zt zc z1 B hml hv
  obtain ⟨rfl, hP, hK⟩ := hv
  have hx := B.exec
  have hb := B.bytes
  have hr := B.returns
  have hts := atoms_spec (ws := wsX8_undo) B.pre
  have hown : zs.vm.findClass RX8 = some zm.cls := findClass_of_methodNamed B.named
  have hlocks := B.notSynchronized
  have hD : va_D (adr (W_X8 ca a rowSizes rows textSizes texts now keeps kept asked upper lower finding findings read at_ costs ways reach)) (W_X8 ca a rowSizes rows textSizes texts now keeps kept asked upper lower finding findings read at_ costs ways reach) := hd.adr
  have hS : va_S (adr (W_X8 ca a rowSizes rows textSizes texts now keeps kept asked upper lower finding findings read at_ costs ways reach)) zs.heap zs.heap [] := va_S.rf
  have hl := lv_entry ([.ref (a 0), .int n]) (n := 5) (Nat.le_of_ble_eq_true rfl)
  rw [lg_entry_eq]
  generalize (lg_sl ([.ref (a 0), .int n]) ++ List.replicate (5 - (lg_sl ([.ref (a 0), .int n])).length) Slot.unset).toArray = ls at hl ⊢
  replace hl : lv_has ls 5 [(0, .ref (a 0)), (1, .int n)] := hl
  show W zp l ze rm_X8_undo zs zm ([.ref (a 0), .int n] : List Value).toArray zb zt zc zs.heap [] 0 0 (MQ zb (wrI (S := (Nat → Int32)) D (W_X8 ca a rowSizes rows textSizes texts now keeps kept asked upper lower finding findings read at_ costs ways reach) (fun zu => W_X8 ca a rowSizes rows textSizes texts zu keeps kept asked upper lower finding findings read at_ costs ways reach) (fun zr zu => post zr zu)) ([.ref (a 0), .int n] : List Value).toArray zs 0 0 (adr (W_X8 ca a rowSizes rows textSizes texts now keeps kept asked upper lower finding findings read at_ costs ways reach))) (F0 zm 0 ls [])
  have w_36 : ∀ (zn : Nat) (now : Nat → Int32) (x2 : Int32) (x3 : Int32), wl_X8_undo_36 n post zn now x2 x3 → ∀ (H : Heap) (locs : List Loc), va_P D vwCl (W_X8 ca a rowSizes rows textSizes texts now keeps kept asked upper lower finding findings read at_ costs ways reach) H → va_D (adr (W_X8 ca a rowSizes rows textSizes texts now keeps kept asked upper lower finding findings read at_ costs ways reach)) (W_X8 ca a rowSizes rows textSizes texts now keeps kept asked upper lower finding findings read at_ costs ways reach) → va_S (adr (W_X8 ca a rowSizes rows textSizes texts now keeps kept asked upper lower finding findings read at_ costs ways reach)) zs.heap H locs → ∀ ls : Array Slot, lv_has ls 5 [(0, .ref (a 0)), (1, .int n), (2, .int x2), (3, .int x3)] → W zp l ze rm_X8_undo zs zm ([.ref (a 0), .int n] : List Value).toArray zb zt zc H locs 0 0 (MQ zb (wrI (S := (Nat → Int32)) D (W_X8 ca a rowSizes rows textSizes texts now keeps kept asked upper lower finding findings read at_ costs ways reach) (fun zu => W_X8 ca a rowSizes rows textSizes texts zu keeps kept asked upper lower finding findings read at_ costs ways reach) (fun zr zu => post zr zu)) ([.ref (a 0), .int n] : List Value).toArray zs 0 0 (adr (W_X8 ca a rowSizes rows textSizes texts now keeps kept asked upper lower finding findings read at_ costs ways reach))) (F0 zm 36 ls []) := by
    intro zn
    induction zn with
    | zero => intro now x2 x3 h; exact h.elim
    | succ zn ih36 =>
      intro now x2 x3 h H locs hP hD hS ls hl
      replace h : wb_X8_undo_36 n post (wl_X8_undo_36 n post zn) now x2 x3 := h
      unfold wb_X8_undo_36 at h
      refine lv_iload_n hx hb dX8_undo_36 rfl (lv_at hl 3 rfl) ?_
      refine lv_iload_n hx hb dX8_undo_37 rfl (lv_at hl 1 rfl) ?_
      refine lv_icmp_lt (tgt := 109) hx hb dX8_undo_38 (by decide) (fun hc => ?_) (fun hc => ?_)
      · have h := h.1 hc
        refine lv_aload_n hx hb dX8_undo_109 rfl (lv_at hl 0 rfl) ?_
        refine va_get (D := D) (ci := 7) (v := .ref (a 5)) (C := RX8) (T := TX8) (N := 17) hx hb hts hi_X8_undo_X8 hown hK.1 hP 0 rfl rfl 4 (by decide) (hts _ k_X8_undo_1) (fun _ h9 => h9) rfl dX8_undo_110 ?_
        refine lv_iconst (v := (1)) hx hb dX8_undo_113 (by decide) ?_
        refine lv_iload_n hx hb dX8_undo_114 rfl (lv_at hl 1 rfl) ?_
        refine x_iast (ws' := W_X8 ca a rowSizes rows textSizes texts (upd now 1 n) keeps kept asked upper lower finding findings read at_ costs ways reach) hx hb hK hP hD hS 5 rfl (vin_lit (by decide)) (k := 1) rfl rfl dX8_undo_115 (fun H locs hP hD hS => ?_)
        refine lv_iload_n hx hb dX8_undo_116 rfl (lv_at hl 2 rfl) ?_
        exact W.iret (v := x2) hx hb hr (fun zt ht hW => ⟨⟨x2, (upd now 1 n), rfl, h, by rw [ht]; exact hP⟩, hS.F ht⟩) hS.2.2 dX8_undo_117
      · have h := h.2 hc
        refine lv_aload_n hx hb dX8_undo_41 rfl (lv_at hl 0 rfl) ?_
        refine va_get (D := D) (ci := 7) (v := .ref (a 5)) (C := RX8) (T := TX8) (N := 17) hx hb hts hi_X8_undo_X8 hown hK.1 hP 0 rfl rfl 4 (by decide) (hts _ k_X8_undo_1) (fun _ h9 => h9) rfl dX8_undo_42 ?_
        refine lv_bipush (v := (75)) hx hb dX8_undo_45 (by decide) ?_
        refine lv_iload_n hx hb dX8_undo_47 rfl (lv_at hl 3 rfl) ?_
        refine lv_iadd hx hb dX8_undo_48 ?_
        obtain ⟨hi, h⟩ := h
        refine x_iald (v := now ((75 : Int32) + x3).toNatClampNeg) hx hb hK hP 5 rfl hi rfl dX8_undo_49 ?_
        refine lv_istore (lv' := [(4, .int (now ((75 : Int32) + x3).toNatClampNeg)), (0, .ref (a 0)), (1, .int n), (2, .int x2), (3, .int x3)]) hx hb dX8_undo_50 hl (by decide) rfl (fun ls hl => ?_)
        refine lv_iload hx hb dX8_undo_52 (lv_at hl 0 rfl) ?_
        refine lv_bipush (v := (100)) hx hb dX8_undo_54 (by decide) ?_
        refine lv_icmp_ge (tgt := 75) hx hb dX8_undo_56 (by decide) (fun hc => ?_) (fun hc => ?_)
        · have h := h.1 hc
          refine lv_aload_n hx hb dX8_undo_75 rfl (lv_at hl 1 rfl) ?_
          refine va_get (D := D) (ci := 7) (v := .ref (a 5)) (C := RX8) (T := TX8) (N := 17) hx hb hts hi_X8_undo_X8 hown hK.1 hP 0 rfl rfl 4 (by decide) (hts _ k_X8_undo_1) (fun _ h9 => h9) rfl dX8_undo_76 ?_
          refine lv_iconst (v := (2)) hx hb dX8_undo_79 (by decide) ?_
          refine lv_dup2_11 hx hb dX8_undo_80 rfl rfl ?_
          refine x_iald (v := now 2) hx hb hK hP 5 rfl (vin_lit (by decide)) rfl dX8_undo_81 ?_
          refine lv_iconst (v := (1)) hx hb dX8_undo_82 (by decide) ?_
          refine lv_iload hx hb dX8_undo_83 (lv_at hl 0 rfl) ?_
          refine lv_bipush (v := (100)) hx hb dX8_undo_85 (by decide) ?_
          refine lv_isub hx hb dX8_undo_87 ?_
          refine lv_ishl hx hb dX8_undo_88 ?_
          refine lv_iconst (v := (-1)) hx hb dX8_undo_89 (by decide) ?_
          refine lv_ixor hx hb dX8_undo_90 ?_
          refine lv_iand hx hb dX8_undo_91 ?_
          refine x_iast (ws' := W_X8 ca a rowSizes rows textSizes texts (upd now 2 ((now 2) &&& (((1 : Int32) <<< (((now ((75 : Int32) + x3).toNatClampNeg) - (100 : Int32)) &&& 31)) ^^^ (-1 : Int32)))) keeps kept asked upper lower finding findings read at_ costs ways reach) hx hb hK hP hD hS 5 rfl (vin_lit (by decide)) (k := 2) rfl rfl dX8_undo_92 (fun H locs hP hD hS => ?_)
          refine lv_aload_n hx hb dX8_undo_93 rfl (lv_at hl 1 rfl) ?_
          refine va_get (D := D) (ci := 7) (v := .ref (a 5)) (C := RX8) (T := TX8) (N := 17) hx hb hts hi_X8_undo_X8 hown hK.1 hP 0 rfl rfl 4 (by decide) (hts _ k_X8_undo_1) (fun _ h9 => h9) rfl dX8_undo_94 ?_
          refine lv_iconst (v := (0)) hx hb dX8_undo_97 (by decide) ?_
          refine lv_dup2_11 hx hb dX8_undo_98 rfl rfl ?_
          refine x_iald (v := (upd now 2 ((now 2) &&& (((1 : Int32) <<< (((now ((75 : Int32) + x3).toNatClampNeg) - (100 : Int32)) &&& 31)) ^^^ (-1 : Int32)))) 0) hx hb hK hP 5 rfl (vin_lit (by decide)) rfl dX8_undo_99 ?_
          refine lv_iconst (v := (1)) hx hb dX8_undo_100 (by decide) ?_
          refine lv_isub hx hb dX8_undo_101 ?_
          refine x_iast (ws' := W_X8 ca a rowSizes rows textSizes texts (upd (upd now 2 ((now 2) &&& (((1 : Int32) <<< (((now ((75 : Int32) + x3).toNatClampNeg) - (100 : Int32)) &&& 31)) ^^^ (-1 : Int32)))) 0 (((upd now 2 ((now 2) &&& (((1 : Int32) <<< (((now ((75 : Int32) + x3).toNatClampNeg) - (100 : Int32)) &&& 31)) ^^^ (-1 : Int32)))) 0) - (1 : Int32))) keeps kept asked upper lower finding findings read at_ costs ways reach) hx hb hK hP hD hS 5 rfl (vin_lit (by decide)) (k := 0) rfl rfl dX8_undo_102 (fun H locs hP hD hS => ?_)
          refine lv_iinc (v := x3 + (-1)) (lv' := [(3, .int (x3 + (-1))), (4, .int (now ((75 : Int32) + x3).toNatClampNeg)), (0, .ref (a 0)), (1, .int n), (2, .int x2)]) hx hb dX8_undo_103 hl (k := 4) rfl rfl (by decide) rfl (fun ls hl => ?_)
          refine lv_goto (tgt := 36) hx hb dX8_undo_106 (by decide) ?_
          exact ih36 (upd (upd now 2 ((now 2) &&& (((1 : Int32) <<< (((now ((75 : Int32) + x3).toNatClampNeg) - (100 : Int32)) &&& 31)) ^^^ (-1 : Int32)))) 0 (((upd now 2 ((now 2) &&& (((1 : Int32) <<< (((now ((75 : Int32) + x3).toNatClampNeg) - (100 : Int32)) &&& 31)) ^^^ (-1 : Int32)))) 0) - (1 : Int32))) x2 (x3 + (-1)) h _ _ hP hD hS ls (lv_sub hl [2, 3, 4, 0] rfl)
        · have h := h.2 hc
          refine lv_aload_n hx hb dX8_undo_59 rfl (lv_at hl 1 rfl) ?_
          refine va_get (D := D) (ci := 7) (v := .ref (a 5)) (C := RX8) (T := TX8) (N := 17) hx hb hts hi_X8_undo_X8 hown hK.1 hP 0 rfl rfl 4 (by decide) (hts _ k_X8_undo_1) (fun _ h9 => h9) rfl dX8_undo_60 ?_
          refine lv_iconst (v := (2)) hx hb dX8_undo_63 (by decide) ?_
          refine lv_dup2_11 hx hb dX8_undo_64 rfl rfl ?_
          refine x_iald (v := now 2) hx hb hK hP 5 rfl (vin_lit (by decide)) rfl dX8_undo_65 ?_
          refine lv_iconst (v := (1)) hx hb dX8_undo_66 (by decide) ?_
          refine lv_iload hx hb dX8_undo_67 (lv_at hl 0 rfl) ?_
          refine lv_ishl hx hb dX8_undo_69 ?_
          refine lv_ior hx hb dX8_undo_70 ?_
          refine x_iast (ws' := W_X8 ca a rowSizes rows textSizes texts (upd now 2 ((now 2) ||| ((1 : Int32) <<< ((now ((75 : Int32) + x3).toNatClampNeg) &&& 31)))) keeps kept asked upper lower finding findings read at_ costs ways reach) hx hb hK hP hD hS 5 rfl (vin_lit (by decide)) (k := 2) rfl rfl dX8_undo_71 (fun H locs hP hD hS => ?_)
          refine lv_goto (tgt := 103) hx hb dX8_undo_72 (by decide) ?_
          refine lv_iinc (v := x3 + (-1)) (lv' := [(3, .int (x3 + (-1))), (4, .int (now ((75 : Int32) + x3).toNatClampNeg)), (0, .ref (a 0)), (1, .int n), (2, .int x2)]) hx hb dX8_undo_103 hl (k := 4) rfl rfl (by decide) rfl (fun ls hl => ?_)
          refine lv_goto (tgt := 36) hx hb dX8_undo_106 (by decide) ?_
          exact ih36 (upd now 2 ((now 2) ||| ((1 : Int32) <<< ((now ((75 : Int32) + x3).toNatClampNeg) &&& 31)))) x2 (x3 + (-1)) h _ _ hP hD hS ls (lv_sub hl [2, 3, 4, 0] rfl)
  unfold wp_X8_undo at h
  refine lv_iload_n hx hb dX8_undo_0 rfl (lv_at hl 1 rfl) ?_
  refine lv_i2l hx hb dX8_undo_1 rfl ?_
  refine lv_lconst (v := (0)) hx hb dX8_undo_2 (by decide) ?_
  refine lv_aload_n hx hb dX8_undo_3 rfl (lv_at hl 0 rfl) ?_
  refine va_get (D := D) (ci := 7) (v := .ref (a 5)) (C := RX8) (T := TX8) (N := 17) hx hb hts hi_X8_undo_X8 hown hK.1 hP 0 rfl rfl 4 (by decide) (hts _ k_X8_undo_1) (fun _ h9 => h9) rfl dX8_undo_4 ?_
  refine lv_iconst (v := (1)) hx hb dX8_undo_7 (by decide) ?_
  refine x_iald (v := now 1) hx hb hK hP 5 rfl (vin_lit (by decide)) rfl dX8_undo_8 ?_
  refine lv_i2l hx hb dX8_undo_9 rfl ?_
  refine rd_callz (va_runS (As := [.long n.toInt64, .long (0 : Int64), .long ((now 1).toInt64)]) (rest := []) ⟨hx, hb, hml, hown, hts⟩ (c_X8_in l D ca   n.toInt64 (0 : Int64) ((now 1).toInt64) _ h) (va_cwS 3 hts gX8_undo_X8_in rfl rfl rfl (by decide +kernel) ⟨Nat.le_of_ble_eq_true rfl, Nat.le_of_ble_eq_true rfl⟩) (PcX.preS hK (fun zk zq zh => by simp at zh)) rfl rfl hl.1 rfl (lv_room (Nat.le_of_ble_eq_true rfl)) dX8_undo_10 ⟨Nat.le_of_ble_eq_true rfl, Nat.le_of_ble_eq_true rfl⟩) (fun r1 h hz_r1 => ?_)
  try dsimp only at h
  refine lv_if_ne (tgt := 18) hx hb dX8_undo_13 (by decide) (fun hc => ?_) (fun hc => ?_)
  · have h := h.1 hc
    refine lv_aload_n hx hb dX8_undo_18 rfl (lv_at hl 0 rfl) ?_
    refine va_get (D := D) (ci := 7) (v := .ref (a 5)) (C := RX8) (T := TX8) (N := 17) hx hb hts hi_X8_undo_X8 hown hK.1 hP 0 rfl rfl 4 (by decide) (hts _ k_X8_undo_1) (fun _ h9 => h9) rfl dX8_undo_19 ?_
    refine lv_iconst (v := (1)) hx hb dX8_undo_22 (by decide) ?_
    refine x_iald (v := now 1) hx hb hK hP 5 rfl (vin_lit (by decide)) rfl dX8_undo_23 ?_
    refine lv_iload_n hx hb dX8_undo_24 rfl (lv_at hl 1 rfl) ?_
    refine lv_isub hx hb dX8_undo_25 ?_
    refine lv_istore_n (lv' := [(2, .int ((now 1) - n)), (0, .ref (a 0)), (1, .int n)]) hx hb dX8_undo_26 rfl hl (by decide) rfl (fun ls hl => ?_)
    refine lv_aload_n hx hb dX8_undo_27 rfl (lv_at hl 1 rfl) ?_
    refine va_get (D := D) (ci := 7) (v := .ref (a 5)) (C := RX8) (T := TX8) (N := 17) hx hb hts hi_X8_undo_X8 hown hK.1 hP 0 rfl rfl 4 (by decide) (hts _ k_X8_undo_1) (fun _ h9 => h9) rfl dX8_undo_28 ?_
    refine lv_iconst (v := (1)) hx hb dX8_undo_31 (by decide) ?_
    refine x_iald (v := now 1) hx hb hK hP 5 rfl (vin_lit (by decide)) rfl dX8_undo_32 ?_
    refine lv_iconst (v := (1)) hx hb dX8_undo_33 (by decide) ?_
    refine lv_isub hx hb dX8_undo_34 ?_
    refine lv_istore_n (lv' := [(3, .int ((now 1) - (1 : Int32))), (2, .int ((now 1) - n)), (0, .ref (a 0)), (1, .int n)]) hx hb dX8_undo_35 rfl hl (by decide) rfl (fun ls hl => ?_)
    obtain ⟨zn, h⟩ := h
    exact w_36  zn now ((now 1) - n) ((now 1) - (1 : Int32)) h _ _ hP hD hS ls (lv_sub hl [2, 3, 1, 0] rfl)
  · have h := h.2 hc
    refine lv_iconst (v := (-1)) hx hb dX8_undo_16 (by decide) ?_
    exact W.iret (v := (-1 : Int32)) hx hb hr (fun zt ht hW => ⟨⟨(-1 : Int32), now, rfl, h, by rw [ht]; exact hP⟩, hS.F ht⟩) hS.2.2 dX8_undo_17

-- IronedQuarrelsModel.allThatMay(I)I
def wb_X8_allThatMay_4 (now : Nat → Int32) (set : Int32) (post : Int32 → Prop) (K4 : (Int32) → (Int32) → Prop) (x2 : Int32) (x3 : Int32) : Prop :=
  ((now 0) ≤ x3 → (post x2)) ∧ (¬ (now 0) ≤ x3 → (wp_X8_mayBe now x3 set (fun r1 => (r1 = 0 → (K4 (x2 ||| (0 : Int32)) (x3 + 1))) ∧ (¬ r1 = 0 → (K4 (x2 ||| ((1 : Int32) <<< (x3 &&& 31))) (x3 + 1))))))
def wl_X8_allThatMay_4 (now : Nat → Int32) (set : Int32) (post : Int32 → Prop) : Nat → (Int32) → (Int32) → Prop
  | 0 => fun _ _ => False
  | zn + 1 => wb_X8_allThatMay_4 now set post (wl_X8_allThatMay_4 now set post zn)
def wp_X8_allThatMay (now : Nat → Int32) (set : Int32) (post : Int32 → Prop) : Prop :=
  ∃ zn, wl_X8_allThatMay_4 now set post zn (0 : Int32) (0 : Int32)
def rm_X8_allThatMay : Room := { frames := 3, cells := 0, slots := 0, locals := 67 }
theorem k_X8_allThatMay_1 : Cond.fieldLink RX8 22 "IronedQuarrelsModel" "now" "[I" ∈ wsX8_allThatMay := List.mem_of_getElem? (i := 1) (by decide +kernel)
theorem hi_X8_allThatMay_X8 : ∀ w ∈ wsX80, w ∈ wsX8_allThatMay := fun w h => List.mem_cons_of_mem _ (List.mem_append_right _ h)
set_option maxHeartbeats 4000000 in
set_option maxRecDepth 100000 in
theorem c_X8_allThatMay (l : Launch) (D : va_G) (ca : Nat → ClassId) (a : Nat → Nat) (rowSizes : Nat → Int32) (rows : Nat → Int32) (textSizes : Nat → Int32) (texts : Nat → Int32) (now : Nat → Int32) (keeps : Nat → Int32) (kept : Nat → Int32) (asked : Int32) (upper : Int64) (lower : Int64) (finding : Int32) (findings : Nat → Int32) (read : Nat → Int32) (at_ : Int32) (costs : Nat → Int32) (ways : Nat → Int64) (reach : Nat → Int32) (set : Int32) (post : Int32 → Prop) (h : wp_X8_allThatMay now set post) : Met l yX8_allThatMay wsX8_allThatMay rm_X8_allThatMay (PcX D ca [.ref (a 0), .int set] (W_X8 ca a rowSizes rows textSizes texts now keeps kept asked upper lower finding findings read at_ costs ways reach)) (rdI post) 0 0 (fun _ => False) := by
  refine Met.ofW (cc := cX8_allThatMay) (maxL := 4) (ret := (some .int)) (by decide) rfl ?_
  intro zp ze zs zm za zb zt zc z1 B hml hv
  obtain ⟨rfl, hP, hK⟩ := hv
  have hx := B.exec
  have hb := B.bytes
  have hr := B.returns
  have hts := atoms_spec (ws := wsX8_allThatMay) B.pre
  have hown : zs.vm.findClass RX8 = some zm.cls := findClass_of_methodNamed B.named
  have hlocks := B.notSynchronized
  have hl := lv_entry ([.ref (a 0), .int set]) (n := 4) (Nat.le_of_ble_eq_true rfl)
  rw [lg_entry_eq]
  generalize (lg_sl ([.ref (a 0), .int set]) ++ List.replicate (4 - (lg_sl ([.ref (a 0), .int set])).length) Slot.unset).toArray = ls at hl ⊢
  replace hl : lv_has ls 4 [(0, .ref (a 0)), (1, .int set)] := hl
  show W zp l ze rm_X8_allThatMay zs zm ([.ref (a 0), .int set] : List Value).toArray zb zt zc zs.heap [] 0 0 (MQ zb (rdI post) ([.ref (a 0), .int set] : List Value).toArray zs 0 0 (fun _ => False)) (F0 zm 0 ls [])
  have w_4 : ∀ (zn : Nat) (x2 : Int32) (x3 : Int32), wl_X8_allThatMay_4 now set post zn x2 x3 → ∀ ls : Array Slot, lv_has ls 4 [(0, .ref (a 0)), (1, .int set), (2, .int x2), (3, .int x3)] → W zp l ze rm_X8_allThatMay zs zm ([.ref (a 0), .int set] : List Value).toArray zb zt zc zs.heap [] 0 0 (MQ zb (rdI post) ([.ref (a 0), .int set] : List Value).toArray zs 0 0 (fun _ => False)) (F0 zm 4 ls []) := by
    intro zn
    induction zn with
    | zero => intro x2 x3 h; exact h.elim
    | succ zn ih4 =>
      intro x2 x3 h ls hl
      replace h : wb_X8_allThatMay_4 now set post (wl_X8_allThatMay_4 now set post zn) x2 x3 := h
      unfold wb_X8_allThatMay_4 at h
      refine lv_iload_n hx hb dX8_allThatMay_4 rfl (lv_at hl 3 rfl) ?_
      refine lv_aload_n hx hb dX8_allThatMay_5 rfl (lv_at hl 0 rfl) ?_
      refine va_get (D := D) (ci := 7) (v := .ref (a 5)) (C := RX8) (T := TX8) (N := 17) hx hb hts hi_X8_allThatMay_X8 hown hK.1 hP 0 rfl rfl 4 (by decide) (hts _ k_X8_allThatMay_1) (fun _ h9 => h9) rfl dX8_allThatMay_6 ?_
      refine lv_iconst (v := (0)) hx hb dX8_allThatMay_9 (by decide) ?_
      refine x_iald (v := now 0) hx hb hK hP 5 rfl (vin_lit (by decide)) rfl dX8_allThatMay_10 ?_
      refine lv_icmp_ge (tgt := 39) hx hb dX8_allThatMay_11 (by decide) (fun hc => ?_) (fun hc => ?_)
      · have h := h.1 hc
        refine lv_iload_n hx hb dX8_allThatMay_39 rfl (lv_at hl 2 rfl) ?_
        exact W.iret (v := x2) hx hb hr (fun zt ht hW => ⟨x2, rfl, h, ht⟩) (fun zq hq => absurd hq List.not_mem_nil) dX8_allThatMay_40
      · have h := h.2 hc
        refine lv_iload_n hx hb dX8_allThatMay_14 rfl (lv_at hl 2 rfl) ?_
        refine lv_aload_n hx hb dX8_allThatMay_15 rfl (lv_at hl 0 rfl) ?_
        refine lv_iload_n hx hb dX8_allThatMay_16 rfl (lv_at hl 3 rfl) ?_
        refine lv_iload_n hx hb dX8_allThatMay_17 rfl (lv_at hl 1 rfl) ?_
        refine rd_callz (va_runV (As := [.int x3, .int set]) (rest := [.int x2]) ⟨hx, hb, hml, hown, hts⟩ (c_X8_mayBe l D ca a rowSizes rows textSizes texts now keeps kept asked upper lower finding findings read at_ costs ways reach x3 set _ h) (cwV 2 hts gX8_allThatMay_X8_mayBe rfl rfl rfl (by decide +kernel) ⟨Nat.le_of_ble_eq_true rfl, Nat.le_of_ble_eq_true rfl⟩) (PcX.preV (q := (RX8, TX8, 17)) (ci := 7) (q0 := 0) hK hP rfl rfl hP) rfl rfl hl.1 rfl (lv_room (Nat.le_of_ble_eq_true rfl)) dX8_allThatMay_18 ⟨Nat.le_of_ble_eq_true rfl, Nat.le_of_ble_eq_true rfl⟩) (fun r1 h hz_r1 => ?_)
        try dsimp only at h
        refine lv_if_eq (tgt := 30) hx hb dX8_allThatMay_21 (by decide) (fun hc => ?_) (fun hc => ?_)
        · have h := h.1 hc
          refine lv_iconst (v := (0)) hx hb dX8_allThatMay_30 (by decide) ?_
          refine lv_ior hx hb dX8_allThatMay_31 ?_
          refine lv_istore_n (lv' := [(2, .int (x2 ||| (0 : Int32))), (0, .ref (a 0)), (1, .int set), (3, .int x3)]) hx hb dX8_allThatMay_32 rfl hl (by decide) rfl (fun ls hl => ?_)
          refine lv_iinc (v := x3 + 1) (lv' := [(3, .int (x3 + 1)), (2, .int (x2 ||| (0 : Int32))), (0, .ref (a 0)), (1, .int set)]) hx hb dX8_allThatMay_33 hl (k := 3) rfl rfl (by decide) rfl (fun ls hl => ?_)
          refine lv_goto (tgt := 4) hx hb dX8_allThatMay_36 (by decide) ?_
          exact ih4 (x2 ||| (0 : Int32)) (x3 + 1) h ls (lv_sub hl [2, 3, 1, 0] rfl)
        · have h := h.2 hc
          refine lv_iconst (v := (1)) hx hb dX8_allThatMay_24 (by decide) ?_
          refine lv_iload_n hx hb dX8_allThatMay_25 rfl (lv_at hl 3 rfl) ?_
          refine lv_ishl hx hb dX8_allThatMay_26 ?_
          refine lv_goto (tgt := 31) hx hb dX8_allThatMay_27 (by decide) ?_
          refine lv_ior hx hb dX8_allThatMay_31 ?_
          refine lv_istore_n (lv' := [(2, .int (x2 ||| ((1 : Int32) <<< (x3 &&& 31)))), (0, .ref (a 0)), (1, .int set), (3, .int x3)]) hx hb dX8_allThatMay_32 rfl hl (by decide) rfl (fun ls hl => ?_)
          refine lv_iinc (v := x3 + 1) (lv' := [(3, .int (x3 + 1)), (2, .int (x2 ||| ((1 : Int32) <<< (x3 &&& 31)))), (0, .ref (a 0)), (1, .int set)]) hx hb dX8_allThatMay_33 hl (k := 3) rfl rfl (by decide) rfl (fun ls hl => ?_)
          refine lv_goto (tgt := 4) hx hb dX8_allThatMay_36 (by decide) ?_
          exact ih4 (x2 ||| ((1 : Int32) <<< (x3 &&& 31))) (x3 + 1) h ls (lv_sub hl [2, 3, 1, 0] rfl)
  unfold wp_X8_allThatMay at h
  refine lv_iconst (v := (0)) hx hb dX8_allThatMay_0 (by decide) ?_
  refine lv_istore_n (lv' := [(2, .int (0 : Int32)), (0, .ref (a 0)), (1, .int set)]) hx hb dX8_allThatMay_1 rfl hl (by decide) rfl (fun ls hl => ?_)
  refine lv_iconst (v := (0)) hx hb dX8_allThatMay_2 (by decide) ?_
  refine lv_istore_n (lv' := [(3, .int (0 : Int32)), (2, .int (0 : Int32)), (0, .ref (a 0)), (1, .int set)]) hx hb dX8_allThatMay_3 rfl hl (by decide) rfl (fun ls hl => ?_)
  obtain ⟨zn, h⟩ := h
  exact w_4  zn (0 : Int32) (0 : Int32) h ls (lv_sub hl [2, 3, 1, 0] rfl)

-- IronedQuarrelsModel.said()I
def wp_X8_said (now : Nat → Int32) (post : Int32 → (Int32) → Prop) : Prop :=
  wp_X8_allThatMay now (now 2) (fun r1 => wp_X8_answer (now 2) r1 (fun r2 asked_3 => post r2 asked_3))
def rm_X8_said : Room := { frames := 4, cells := 0, slots := 0, locals := 90 }
theorem k_X8_said_1 : Cond.fieldLink RX8 22 "IronedQuarrelsModel" "now" "[I" ∈ wsX8_said := List.mem_of_getElem? (i := 1) (by decide +kernel)
theorem hi_X8_said_X8 : ∀ w ∈ wsX80, w ∈ wsX8_said := fun w h => List.mem_cons_of_mem _ (List.mem_append_right _ h)
set_option maxHeartbeats 4000000 in
set_option maxRecDepth 100000 in
theorem c_X8_said (l : Launch) (D : va_G) (ca : Nat → ClassId) (a : Nat → Nat) (rowSizes : Nat → Int32) (rows : Nat → Int32) (textSizes : Nat → Int32) (texts : Nat → Int32) (now : Nat → Int32) (keeps : Nat → Int32) (kept : Nat → Int32) (asked : Int32) (upper : Int64) (lower : Int64) (finding : Int32) (findings : Nat → Int32) (read : Nat → Int32) (at_ : Int32) (costs : Nat → Int32) (ways : Nat → Int64) (reach : Nat → Int32)  (post : Int32 → (Int32) → Prop) (hd : va_D (fun _ => True) (W_X8 ca a rowSizes rows textSizes texts now keeps kept asked upper lower finding findings read at_ costs ways reach)) (h : wp_X8_said now post) : Met l yX8_said wsX8_said rm_X8_said (PcX D ca [.ref (a 0)] (W_X8 ca a rowSizes rows textSizes texts now keeps kept asked upper lower finding findings read at_ costs ways reach)) (wrI (S := (Int32)) D (W_X8 ca a rowSizes rows textSizes texts now keeps kept asked upper lower finding findings read at_ costs ways reach) (fun zu => W_X8 ca a rowSizes rows textSizes texts now keeps kept zu upper lower finding findings read at_ costs ways reach) (fun zr zu => post zr zu)) 0 0 (adr (W_X8 ca a rowSizes rows textSizes texts now keeps kept asked upper lower finding findings read at_ costs ways reach)) := by
  refine Met.ofW (cc := cX8_said) (maxL := 1) (ret := (some .int)) (by decide) rfl ?_
  intro zp ze zs zm za zb zt zc z1 B hml hv
  obtain ⟨rfl, hP, hK⟩ := hv
  have hx := B.exec
  have hb := B.bytes
  have hr := B.returns
  have hts := atoms_spec (ws := wsX8_said) B.pre
  have hown : zs.vm.findClass RX8 = some zm.cls := findClass_of_methodNamed B.named
  have hlocks := B.notSynchronized
  have hD : va_D (adr (W_X8 ca a rowSizes rows textSizes texts now keeps kept asked upper lower finding findings read at_ costs ways reach)) (W_X8 ca a rowSizes rows textSizes texts now keeps kept asked upper lower finding findings read at_ costs ways reach) := hd.adr
  have hS : va_S (adr (W_X8 ca a rowSizes rows textSizes texts now keeps kept asked upper lower finding findings read at_ costs ways reach)) zs.heap zs.heap [] := va_S.rf
  have hl := lv_entry ([.ref (a 0)]) (n := 1) (Nat.le_of_ble_eq_true rfl)
  rw [lg_entry_eq]
  generalize (lg_sl ([.ref (a 0)]) ++ List.replicate (1 - (lg_sl ([.ref (a 0)])).length) Slot.unset).toArray = ls at hl ⊢
  replace hl : lv_has ls 1 [(0, .ref (a 0))] := hl
  show W zp l ze rm_X8_said zs zm ([.ref (a 0)] : List Value).toArray zb zt zc zs.heap [] 0 0 (MQ zb (wrI (S := (Int32)) D (W_X8 ca a rowSizes rows textSizes texts now keeps kept asked upper lower finding findings read at_ costs ways reach) (fun zu => W_X8 ca a rowSizes rows textSizes texts now keeps kept zu upper lower finding findings read at_ costs ways reach) (fun zr zu => post zr zu)) ([.ref (a 0)] : List Value).toArray zs 0 0 (adr (W_X8 ca a rowSizes rows textSizes texts now keeps kept asked upper lower finding findings read at_ costs ways reach))) (F0 zm 0 ls [])
  unfold wp_X8_said at h
  refine lv_aload_n hx hb dX8_said_0 rfl (lv_at hl 0 rfl) ?_
  refine lv_aload_n hx hb dX8_said_1 rfl (lv_at hl 0 rfl) ?_
  refine va_get (D := D) (ci := 7) (v := .ref (a 5)) (C := RX8) (T := TX8) (N := 17) hx hb hts hi_X8_said_X8 hown hK.1 hP 0 rfl rfl 4 (by decide) (hts _ k_X8_said_1) (fun _ h9 => h9) rfl dX8_said_2 ?_
  refine lv_iconst (v := (2)) hx hb dX8_said_5 (by decide) ?_
  refine x_iald (v := now 2) hx hb hK hP 5 rfl (vin_lit (by decide)) rfl dX8_said_6 ?_
  refine lv_aload_n hx hb dX8_said_7 rfl (lv_at hl 0 rfl) ?_
  refine lv_aload_n hx hb dX8_said_8 rfl (lv_at hl 0 rfl) ?_
  refine va_get (D := D) (ci := 7) (v := .ref (a 5)) (C := RX8) (T := TX8) (N := 17) hx hb hts hi_X8_said_X8 hown hK.1 hP 0 rfl rfl 4 (by decide) (hts _ k_X8_said_1) (fun _ h9 => h9) rfl dX8_said_9 ?_
  refine lv_iconst (v := (2)) hx hb dX8_said_12 (by decide) ?_
  refine x_iald (v := now 2) hx hb hK hP 5 rfl (vin_lit (by decide)) rfl dX8_said_13 ?_
  refine rd_calli (va_runV (As := [.int (now 2)]) (rest := [.int (now 2), .ref (a 0)]) ⟨hx, hb, hml, hown, hts⟩ (c_X8_allThatMay l D ca a rowSizes rows textSizes texts now keeps kept asked upper lower finding findings read at_ costs ways reach (now 2) _ h) (cwV 1 hts gX8_said_X8_allThatMay rfl rfl rfl (by decide +kernel) ⟨Nat.le_of_ble_eq_true rfl, Nat.le_of_ble_eq_true rfl⟩) (PcX.preV (q := (RX8, TX8, 17)) (ci := 7) (q0 := 0) hK hP rfl rfl hP) rfl rfl hl.1 rfl (lv_room (Nat.le_of_ble_eq_true rfl)) dX8_said_14 ⟨Nat.le_of_ble_eq_true rfl, Nat.le_of_ble_eq_true rfl⟩) (fun r1 h => ?_)
  try dsimp only at h
  refine wr_calli (ws1 := fun zu => W_X8 ca a rowSizes rows textSizes texts now keeps kept zu upper lower finding findings read at_ costs ways reach) (wr := ([] : List Nat).filterMap (fun zi => (W_X8 ca a rowSizes rows textSizes texts now keeps kept asked upper lower finding findings read at_ costs ways reach : va_W)[zi]?)) (n := 13) (va_runV (As := [.int (now 2), .int r1]) (rest := []) ⟨hx, hb, hml, hown, hts⟩ (c_X8_answer l D ca a rowSizes rows textSizes texts now keeps kept asked upper lower finding findings read at_ costs ways reach (now 2) r1 _ (hD.subM [0, 1, 2, 3, 4, 5, 6, 7, 8, 9, 10, 11, 12] (by decide) rfl) h) (cwV 2 hts gX8_said_X8_answer rfl rfl rfl (by decide +kernel) ⟨Nat.le_of_ble_eq_true rfl, Nat.le_of_ble_eq_true rfl⟩) (PcX.preV (q := (RX8, TX8, 17)) (ci := 7) (q0 := 0) hK hP rfl rfl hP) rfl rfl hl.1 rfl (lv_room (Nat.le_of_ble_eq_true rfl)) dX8_said_17 ⟨Nat.le_of_ble_eq_true rfl, Nat.le_of_ble_eq_true rfl⟩) hP hD hS [0, 1, 2, 3, 4, 5, 6, 7, 8, 9, 10, 11, 12] [] rfl (fun _ => rfl) rfl (fun _ => rfl) (fun _ => rfl) (fun _ => rfl) (by decide +kernel) (by decide +kernel) (fun r2 zu H locs h hP hD hS => ?_)
  obtain ⟨asked_3, rfl⟩ : ∃ zz, zz = zu := ⟨zu, rfl⟩
  have hP : va_P D vwCl (W_X8 ca a rowSizes rows textSizes texts now keeps kept asked_3 upper lower finding findings read at_ costs ways reach) H := hP
  have hD : va_D _ (W_X8 ca a rowSizes rows textSizes texts now keeps kept asked_3 upper lower finding findings read at_ costs ways reach) := hD
  try dsimp only at h
  exact W.iret (v := r2) hx hb hr (fun zt ht hW => ⟨⟨r2, asked_3, rfl, h, by rw [ht]; exact hP⟩, hS.F ht⟩) hS.2.2 dX8_said_20

-- IronedQuarrelsModel.keep(I)I
def wp_X8_keep (now : Nat → Int32) (keeps : Nat → Int32) (kept : Nat → Int32) (k : Int32) (post : Int32 → (Nat → Int32) → (Nat → Int32) → Prop) : Prop :=
  wp_X8_in k.toInt64 (0 : Int64) (2 : Int64) (fun r1 => (¬ r1 = 0 → ((¬ (now 0) = 0 → (wp_X8_copies 115 now 345 keeps (0 : Int32) ((115 : Int32) * k) (fun keeps_2 => vp_in k 3 ∧ post (now 1) keeps_2 (upd kept (k.toNatClampNeg) (vp_nar .boolean (1 : Int32)))))) ∧ ((now 0) = 0 → (post (-4 : Int32) keeps kept)))) ∧ (r1 = 0 → (post (-1 : Int32) keeps kept)))
def rm_X8_keep : Room := { frames := 1, cells := 0, slots := 0, locals := 25 }
theorem k_X8_keep_1 : Cond.constantLong RX8 165 (2) ∈ wsX8_keep := List.mem_of_getElem? (i := 1) (by decide +kernel)
theorem k_X8_keep_2 : Cond.fieldLink RX8 22 "IronedQuarrelsModel" "now" "[I" ∈ wsX8_keep := List.mem_of_getElem? (i := 2) (by decide +kernel)
theorem k_X8_keep_3 : Cond.fieldLink RX8 25 "IronedQuarrelsModel" "keeps" "[I" ∈ wsX8_keep := List.mem_of_getElem? (i := 3) (by decide +kernel)
theorem k_X8_keep_4 : Cond.fieldLink RX8 28 "IronedQuarrelsModel" "kept" "[Z" ∈ wsX8_keep := List.mem_of_getElem? (i := 4) (by decide +kernel)
theorem hi_X8_keep_X8 : ∀ w ∈ wsX80, w ∈ wsX8_keep := fun w h => List.mem_cons_of_mem _ (List.mem_append_right _ h)
set_option maxHeartbeats 4000000 in
set_option maxRecDepth 100000 in
theorem c_X8_keep (l : Launch) (D : va_G) (ca : Nat → ClassId) (a : Nat → Nat) (rowSizes : Nat → Int32) (rows : Nat → Int32) (textSizes : Nat → Int32) (texts : Nat → Int32) (now : Nat → Int32) (keeps : Nat → Int32) (kept : Nat → Int32) (asked : Int32) (upper : Int64) (lower : Int64) (finding : Int32) (findings : Nat → Int32) (read : Nat → Int32) (at_ : Int32) (costs : Nat → Int32) (ways : Nat → Int64) (reach : Nat → Int32) (k : Int32) (post : Int32 → (Nat → Int32) → (Nat → Int32) → Prop) (hd : va_D (fun _ => True) (W_X8 ca a rowSizes rows textSizes texts now keeps kept asked upper lower finding findings read at_ costs ways reach)) (h : wp_X8_keep now keeps kept k post) : Met l yX8_keep wsX8_keep rm_X8_keep (PcX D ca [.ref (a 0), .int k] (W_X8 ca a rowSizes rows textSizes texts now keeps kept asked upper lower finding findings read at_ costs ways reach)) (wrI (S := (Nat → Int32) × (Nat → Int32)) D (W_X8 ca a rowSizes rows textSizes texts now keeps kept asked upper lower finding findings read at_ costs ways reach) (fun zu => W_X8 ca a rowSizes rows textSizes texts now zu.1 zu.2 asked upper lower finding findings read at_ costs ways reach) (fun zr zu => post zr zu.1 zu.2)) 0 0 (adr (W_X8 ca a rowSizes rows textSizes texts now keeps kept asked upper lower finding findings read at_ costs ways reach)) := by
  refine Met.ofW (cc := cX8_keep) (maxL := 2) (ret := (some .int)) (by decide) rfl ?_
  intro zp ze zs zm za zb zt zc z1 B hml hv
  obtain ⟨rfl, hP, hK⟩ := hv
  have hx := B.exec
  have hb := B.bytes
  have hr := B.returns
  have hts := atoms_spec (ws := wsX8_keep) B.pre
  have hown : zs.vm.findClass RX8 = some zm.cls := findClass_of_methodNamed B.named
  have hlocks := B.notSynchronized
  have hD : va_D (adr (W_X8 ca a rowSizes rows textSizes texts now keeps kept asked upper lower finding findings read at_ costs ways reach)) (W_X8 ca a rowSizes rows textSizes texts now keeps kept asked upper lower finding findings read at_ costs ways reach) := hd.adr
  have hS : va_S (adr (W_X8 ca a rowSizes rows textSizes texts now keeps kept asked upper lower finding findings read at_ costs ways reach)) zs.heap zs.heap [] := va_S.rf
  have hl := lv_entry ([.ref (a 0), .int k]) (n := 2) (Nat.le_of_ble_eq_true rfl)
  rw [lg_entry_eq]
  generalize (lg_sl ([.ref (a 0), .int k]) ++ List.replicate (2 - (lg_sl ([.ref (a 0), .int k])).length) Slot.unset).toArray = ls at hl ⊢
  replace hl : lv_has ls 2 [(0, .ref (a 0)), (1, .int k)] := hl
  show W zp l ze rm_X8_keep zs zm ([.ref (a 0), .int k] : List Value).toArray zb zt zc zs.heap [] 0 0 (MQ zb (wrI (S := (Nat → Int32) × (Nat → Int32)) D (W_X8 ca a rowSizes rows textSizes texts now keeps kept asked upper lower finding findings read at_ costs ways reach) (fun zu => W_X8 ca a rowSizes rows textSizes texts now zu.1 zu.2 asked upper lower finding findings read at_ costs ways reach) (fun zr zu => post zr zu.1 zu.2)) ([.ref (a 0), .int k] : List Value).toArray zs 0 0 (adr (W_X8 ca a rowSizes rows textSizes texts now keeps kept asked upper lower finding findings read at_ costs ways reach))) (F0 zm 0 ls [])
  unfold wp_X8_keep at h
  refine lv_iload_n hx hb dX8_keep_0 rfl (lv_at hl 1 rfl) ?_
  refine lv_i2l hx hb dX8_keep_1 rfl ?_
  refine lv_lconst (v := (0)) hx hb dX8_keep_2 (by decide) ?_
  refine lv_ldc2 (v := (2)) hx hb hown (hts _ k_X8_keep_1) dX8_keep_3 ?_
  refine rd_callz (va_runS (As := [.long k.toInt64, .long (0 : Int64), .long (2 : Int64)]) (rest := []) ⟨hx, hb, hml, hown, hts⟩ (c_X8_in l D ca   k.toInt64 (0 : Int64) (2 : Int64) _ h) (va_cwS 3 hts gX8_keep_X8_in rfl rfl rfl (by decide +kernel) ⟨Nat.le_of_ble_eq_true rfl, Nat.le_of_ble_eq_true rfl⟩) (PcX.preS hK (fun zk zq zh => by simp at zh)) rfl rfl hl.1 rfl (lv_room (Nat.le_of_ble_eq_true rfl)) dX8_keep_6 ⟨Nat.le_of_ble_eq_true rfl, Nat.le_of_ble_eq_true rfl⟩) (fun r1 h hz_r1 => ?_)
  try dsimp only at h
  refine lv_if_ne (tgt := 14) hx hb dX8_keep_9 (by decide) (fun hc => ?_) (fun hc => ?_)
  · have h := h.1 hc
    refine lv_aload_n hx hb dX8_keep_14 rfl (lv_at hl 0 rfl) ?_
    refine va_get (D := D) (ci := 7) (v := .ref (a 5)) (C := RX8) (T := TX8) (N := 17) hx hb hts hi_X8_keep_X8 hown hK.1 hP 0 rfl rfl 4 (by decide) (hts _ k_X8_keep_2) (fun _ h9 => h9) rfl dX8_keep_15 ?_
    refine lv_iconst (v := (0)) hx hb dX8_keep_18 (by decide) ?_
    refine x_iald (v := now 0) hx hb hK hP 5 rfl (vin_lit (by decide)) rfl dX8_keep_19 ?_
    refine lv_if_ne (tgt := 26) hx hb dX8_keep_20 (by decide) (fun hc => ?_) (fun hc => ?_)
    · have h := h.1 hc
      refine lv_aload_n hx hb dX8_keep_26 rfl (lv_at hl 0 rfl) ?_
      refine va_get (D := D) (ci := 7) (v := .ref (a 5)) (C := RX8) (T := TX8) (N := 17) hx hb hts hi_X8_keep_X8 hown hK.1 hP 0 rfl rfl 4 (by decide) (hts _ k_X8_keep_2) (fun _ h9 => h9) rfl dX8_keep_27 ?_
      refine lv_iconst (v := (0)) hx hb dX8_keep_30 (by decide) ?_
      refine lv_aload_n hx hb dX8_keep_31 rfl (lv_at hl 0 rfl) ?_
      refine va_get (D := D) (ci := 7) (v := .ref (a 6)) (C := RX8) (T := TX8) (N := 17) hx hb hts hi_X8_keep_X8 hown hK.1 hP 0 rfl rfl 5 (by decide) (hts _ k_X8_keep_3) (fun _ h9 => h9) rfl dX8_keep_32 ?_
      refine lv_bipush (v := (115)) hx hb dX8_keep_35 (by decide) ?_
      refine lv_iload_n hx hb dX8_keep_37 rfl (lv_at hl 1 rfl) ?_
      refine lv_imul hx hb dX8_keep_38 ?_
      refine wr_callv (ws1 := fun zu => W_X8 ca a rowSizes rows textSizes texts now zu kept asked upper lower finding findings read at_ costs ways reach) (wr := ([0, 1, 2, 3, 4, 7, 8, 9, 10, 11, 12] : List Nat).filterMap (fun zi => (W_X8 ca a rowSizes rows textSizes texts now keeps kept asked upper lower finding findings read at_ costs ways reach : va_W)[zi]?)) (n := 13) (va_runS (As := [.ref (a 5), .int (0 : Int32), .ref (a 6), .int ((115 : Int32) * k)]) (rest := []) ⟨hx, hb, hml, hown, hts⟩ (c_X8_copies l D ca (a 5) (a 6) 115 now 345 keeps (0 : Int32) ((115 : Int32) * k) _ (hD.subM [5, 6] (by decide) rfl) h) (va_cwS 4 hts gX8_keep_X8_copies rfl rfl rfl (by decide +kernel) ⟨Nat.le_of_ble_eq_true rfl, Nat.le_of_ble_eq_true rfl⟩) (PcX.preS hK (hP.subM [5, 6] rfl)) rfl rfl hl.1 rfl (lv_room (Nat.le_of_ble_eq_true rfl)) dX8_keep_39 ⟨Nat.le_of_ble_eq_true rfl, Nat.le_of_ble_eq_true rfl⟩) hP hD hS [5, 6] [0, 1, 2, 3, 4, 7, 8, 9, 10, 11, 12] rfl (fun _ => rfl) rfl (fun _ => rfl) (fun _ => rfl) (fun _ => rfl) (by decide +kernel) (by decide +kernel) (fun zu H locs h hP hD hS => ?_)
      obtain ⟨keeps_2, rfl⟩ : ∃ zz, zz = zu := ⟨zu, rfl⟩
      have hP : va_P D vwCl (W_X8 ca a rowSizes rows textSizes texts now keeps_2 kept asked upper lower finding findings read at_ costs ways reach) H := hP
      have hD : va_D _ (W_X8 ca a rowSizes rows textSizes texts now keeps_2 kept asked upper lower finding findings read at_ costs ways reach) := hD
      try dsimp only at h
      refine lv_aload_n hx hb dX8_keep_42 rfl (lv_at hl 0 rfl) ?_
      refine va_get (D := D) (ci := 7) (v := .ref (a 7)) (C := RX8) (T := TX8) (N := 17) hx hb hts hi_X8_keep_X8 hown hK.1 hP 0 rfl rfl 6 (by decide) (hts _ k_X8_keep_4) (fun _ h9 => h9) rfl dX8_keep_43 ?_
      refine lv_iload_n hx hb dX8_keep_46 rfl (lv_at hl 1 rfl) ?_
      refine lv_iconst (v := (1)) hx hb dX8_keep_47 (by decide) ?_
      obtain ⟨hi, h⟩ := h
      refine x_zast (ws' := W_X8 ca a rowSizes rows textSizes texts now keeps_2 (upd kept (k.toNatClampNeg) (vp_nar .boolean (1 : Int32))) asked upper lower finding findings read at_ costs ways reach) hx hb hK hP hD hS 7 rfl hi (k := (k.toNatClampNeg)) rfl rfl dX8_keep_48 (fun H locs hP hD hS => ?_)
      refine lv_aload_n hx hb dX8_keep_49 rfl (lv_at hl 0 rfl) ?_
      refine va_get (D := D) (ci := 7) (v := .ref (a 5)) (C := RX8) (T := TX8) (N := 17) hx hb hts hi_X8_keep_X8 hown hK.1 hP 0 rfl rfl 4 (by decide) (hts _ k_X8_keep_2) (fun _ h9 => h9) rfl dX8_keep_50 ?_
      refine lv_iconst (v := (1)) hx hb dX8_keep_53 (by decide) ?_
      refine x_iald (v := now 1) hx hb hK hP 5 rfl (vin_lit (by decide)) rfl dX8_keep_54 ?_
      exact W.iret (v := now 1) hx hb hr (fun zt ht hW => ⟨⟨now 1, (keeps_2, upd kept (k.toNatClampNeg) (vp_nar .boolean (1 : Int32))), rfl, h, by rw [ht]; exact hP⟩, hS.F ht⟩) hS.2.2 dX8_keep_55
    · have h := h.2 hc
      refine lv_bipush (v := (-4)) hx hb dX8_keep_23 (by decide) ?_
      exact W.iret (v := (-4 : Int32)) hx hb hr (fun zt ht hW => ⟨⟨(-4 : Int32), (keeps, kept), rfl, h, by rw [ht]; exact hP⟩, hS.F ht⟩) hS.2.2 dX8_keep_25
  · have h := h.2 hc
    refine lv_iconst (v := (-1)) hx hb dX8_keep_12 (by decide) ?_
    exact W.iret (v := (-1 : Int32)) hx hb hr (fun zt ht hW => ⟨⟨(-1 : Int32), (keeps, kept), rfl, h, by rw [ht]; exact hP⟩, hS.F ht⟩) hS.2.2 dX8_keep_13

-- IronedQuarrelsModel.on(I)I
def wp_X8_on (now : Nat → Int32) (keeps : Nat → Int32) (kept : Nat → Int32) (finding : Int32) (findings : Nat → Int32) (k : Int32) (post : Int32 → (Nat → Int32) → (Int32) → (Nat → Int32) → Prop) : Prop :=
  wp_X8_in k.toInt64 (0 : Int64) (2 : Int64) (fun r1 => (¬ r1 = 0 → (vp_in k 3 ∧ (¬ (kept k.toNatClampNeg) = 0 → (wp_X8_copies 345 keeps 115 now ((115 : Int32) * k) (0 : Int32) (fun now_2 => post (now_2 1) now_2 finding findings))) ∧ ((kept k.toNatClampNeg) = 0 → (wp_X8_found findings (1 : Int32) (fun r3 finding_4 findings_5 => post r3 now finding_4 findings_5))))) ∧ (r1 = 0 → (post (-1 : Int32) now finding findings)))
def rm_X8_on : Room := { frames := 1, cells := 0, slots := 0, locals := 25 }
theorem k_X8_on_1 : Cond.constantLong RX8 165 (2) ∈ wsX8_on := List.mem_of_getElem? (i := 1) (by decide +kernel)
theorem k_X8_on_2 : Cond.fieldLink RX8 28 "IronedQuarrelsModel" "kept" "[Z" ∈ wsX8_on := List.mem_of_getElem? (i := 2) (by decide +kernel)
theorem k_X8_on_3 : Cond.fieldLink RX8 25 "IronedQuarrelsModel" "keeps" "[I" ∈ wsX8_on := List.mem_of_getElem? (i := 3) (by decide +kernel)
theorem k_X8_on_4 : Cond.fieldLink RX8 22 "IronedQuarrelsModel" "now" "[I" ∈ wsX8_on := List.mem_of_getElem? (i := 4) (by decide +kernel)
theorem hi_X8_on_X8 : ∀ w ∈ wsX80, w ∈ wsX8_on := fun w h => List.mem_cons_of_mem _ (List.mem_append_right _ h)
set_option maxHeartbeats 4000000 in
set_option maxRecDepth 100000 in
theorem c_X8_on (l : Launch) (D : va_G) (ca : Nat → ClassId) (a : Nat → Nat) (rowSizes : Nat → Int32) (rows : Nat → Int32) (textSizes : Nat → Int32) (texts : Nat → Int32) (now : Nat → Int32) (keeps : Nat → Int32) (kept : Nat → Int32) (asked : Int32) (upper : Int64) (lower : Int64) (finding : Int32) (findings : Nat → Int32) (read : Nat → Int32) (at_ : Int32) (costs : Nat → Int32) (ways : Nat → Int64) (reach : Nat → Int32) (k : Int32) (post : Int32 → (Nat → Int32) → (Int32) → (Nat → Int32) → Prop) (hd : va_D (fun _ => True) (W_X8 ca a rowSizes rows textSizes texts now keeps kept asked upper lower finding findings read at_ costs ways reach)) (h : wp_X8_on now keeps kept finding findings k post) : Met l yX8_on wsX8_on rm_X8_on (PcX D ca [.ref (a 0), .int k] (W_X8 ca a rowSizes rows textSizes texts now keeps kept asked upper lower finding findings read at_ costs ways reach)) (wrI (S := (Nat → Int32) × (Int32) × (Nat → Int32)) D (W_X8 ca a rowSizes rows textSizes texts now keeps kept asked upper lower finding findings read at_ costs ways reach) (fun zu => W_X8 ca a rowSizes rows textSizes texts zu.1 keeps kept asked upper lower zu.2.1 zu.2.2 read at_ costs ways reach) (fun zr zu => post zr zu.1 zu.2.1 zu.2.2)) 0 0 (adr (W_X8 ca a rowSizes rows textSizes texts now keeps kept asked upper lower finding findings read at_ costs ways reach)) := by
  refine Met.ofW (cc := cX8_on) (maxL := 2) (ret := (some .int)) (by decide) rfl ?_
  intro zp ze zs zm za zb zt zc z1 B hml hv
  obtain ⟨rfl, hP, hK⟩ := hv
  have hx := B.exec
  have hb := B.bytes
  have hr := B.returns
  have hts := atoms_spec (ws := wsX8_on) B.pre
  have hown : zs.vm.findClass RX8 = some zm.cls := findClass_of_methodNamed B.named
  have hlocks := B.notSynchronized
  have hD : va_D (adr (W_X8 ca a rowSizes rows textSizes texts now keeps kept asked upper lower finding findings read at_ costs ways reach)) (W_X8 ca a rowSizes rows textSizes texts now keeps kept asked upper lower finding findings read at_ costs ways reach) := hd.adr
  have hS : va_S (adr (W_X8 ca a rowSizes rows textSizes texts now keeps kept asked upper lower finding findings read at_ costs ways reach)) zs.heap zs.heap [] := va_S.rf
  have hl := lv_entry ([.ref (a 0), .int k]) (n := 2) (Nat.le_of_ble_eq_true rfl)
  rw [lg_entry_eq]
  generalize (lg_sl ([.ref (a 0), .int k]) ++ List.replicate (2 - (lg_sl ([.ref (a 0), .int k])).length) Slot.unset).toArray = ls at hl ⊢
  replace hl : lv_has ls 2 [(0, .ref (a 0)), (1, .int k)] := hl
  show W zp l ze rm_X8_on zs zm ([.ref (a 0), .int k] : List Value).toArray zb zt zc zs.heap [] 0 0 (MQ zb (wrI (S := (Nat → Int32) × (Int32) × (Nat → Int32)) D (W_X8 ca a rowSizes rows textSizes texts now keeps kept asked upper lower finding findings read at_ costs ways reach) (fun zu => W_X8 ca a rowSizes rows textSizes texts zu.1 keeps kept asked upper lower zu.2.1 zu.2.2 read at_ costs ways reach) (fun zr zu => post zr zu.1 zu.2.1 zu.2.2)) ([.ref (a 0), .int k] : List Value).toArray zs 0 0 (adr (W_X8 ca a rowSizes rows textSizes texts now keeps kept asked upper lower finding findings read at_ costs ways reach))) (F0 zm 0 ls [])
  unfold wp_X8_on at h
  refine lv_iload_n hx hb dX8_on_0 rfl (lv_at hl 1 rfl) ?_
  refine lv_i2l hx hb dX8_on_1 rfl ?_
  refine lv_lconst (v := (0)) hx hb dX8_on_2 (by decide) ?_
  refine lv_ldc2 (v := (2)) hx hb hown (hts _ k_X8_on_1) dX8_on_3 ?_
  refine rd_callz (va_runS (As := [.long k.toInt64, .long (0 : Int64), .long (2 : Int64)]) (rest := []) ⟨hx, hb, hml, hown, hts⟩ (c_X8_in l D ca   k.toInt64 (0 : Int64) (2 : Int64) _ h) (va_cwS 3 hts gX8_on_X8_in rfl rfl rfl (by decide +kernel) ⟨Nat.le_of_ble_eq_true rfl, Nat.le_of_ble_eq_true rfl⟩) (PcX.preS hK (fun zk zq zh => by simp at zh)) rfl rfl hl.1 rfl (lv_room (Nat.le_of_ble_eq_true rfl)) dX8_on_6 ⟨Nat.le_of_ble_eq_true rfl, Nat.le_of_ble_eq_true rfl⟩) (fun r1 h hz_r1 => ?_)
  try dsimp only at h
  refine lv_if_ne (tgt := 14) hx hb dX8_on_9 (by decide) (fun hc => ?_) (fun hc => ?_)
  · have h := h.1 hc
    refine lv_aload_n hx hb dX8_on_14 rfl (lv_at hl 0 rfl) ?_
    refine va_get (D := D) (ci := 7) (v := .ref (a 7)) (C := RX8) (T := TX8) (N := 17) hx hb hts hi_X8_on_X8 hown hK.1 hP 0 rfl rfl 6 (by decide) (hts _ k_X8_on_2) (fun _ h9 => h9) rfl dX8_on_15 ?_
    refine lv_iload_n hx hb dX8_on_18 rfl (lv_at hl 1 rfl) ?_
    obtain ⟨hi, h⟩ := h
    refine x_zald (v := kept k.toNatClampNeg) hx hb hK hP 7 rfl hi rfl dX8_on_19 ?_
    refine lv_if_ne (tgt := 29) hx hb dX8_on_20 (by decide) (fun hc => ?_) (fun hc => ?_)
    · have h := h.1 hc
      refine lv_aload_n hx hb dX8_on_29 rfl (lv_at hl 0 rfl) ?_
      refine va_get (D := D) (ci := 7) (v := .ref (a 6)) (C := RX8) (T := TX8) (N := 17) hx hb hts hi_X8_on_X8 hown hK.1 hP 0 rfl rfl 5 (by decide) (hts _ k_X8_on_3) (fun _ h9 => h9) rfl dX8_on_30 ?_
      refine lv_bipush (v := (115)) hx hb dX8_on_33 (by decide) ?_
      refine lv_iload_n hx hb dX8_on_35 rfl (lv_at hl 1 rfl) ?_
      refine lv_imul hx hb dX8_on_36 ?_
      refine lv_aload_n hx hb dX8_on_37 rfl (lv_at hl 0 rfl) ?_
      refine va_get (D := D) (ci := 7) (v := .ref (a 5)) (C := RX8) (T := TX8) (N := 17) hx hb hts hi_X8_on_X8 hown hK.1 hP 0 rfl rfl 4 (by decide) (hts _ k_X8_on_4) (fun _ h9 => h9) rfl dX8_on_38 ?_
      refine lv_iconst (v := (0)) hx hb dX8_on_41 (by decide) ?_
      refine wr_callv (ws1 := fun zu => W_X8 ca a rowSizes rows textSizes texts zu keeps kept asked upper lower finding findings read at_ costs ways reach) (wr := ([0, 1, 2, 3, 4, 7, 8, 9, 10, 11, 12] : List Nat).filterMap (fun zi => (W_X8 ca a rowSizes rows textSizes texts now keeps kept asked upper lower finding findings read at_ costs ways reach : va_W)[zi]?)) (n := 13) (va_runS (As := [.ref (a 6), .int ((115 : Int32) * k), .ref (a 5), .int (0 : Int32)]) (rest := []) ⟨hx, hb, hml, hown, hts⟩ (c_X8_copies l D ca (a 6) (a 5) 345 keeps 115 now ((115 : Int32) * k) (0 : Int32) _ (hD.subM [6, 5] (by decide) rfl) h) (va_cwS 4 hts gX8_on_X8_copies rfl rfl rfl (by decide +kernel) ⟨Nat.le_of_ble_eq_true rfl, Nat.le_of_ble_eq_true rfl⟩) (PcX.preS hK (hP.subM [6, 5] rfl)) rfl rfl hl.1 rfl (lv_room (Nat.le_of_ble_eq_true rfl)) dX8_on_42 ⟨Nat.le_of_ble_eq_true rfl, Nat.le_of_ble_eq_true rfl⟩) hP hD hS [6, 5] [0, 1, 2, 3, 4, 7, 8, 9, 10, 11, 12] rfl (fun _ => rfl) rfl (fun _ => rfl) (fun _ => rfl) (fun _ => rfl) (by decide +kernel) (by decide +kernel) (fun zu H locs h hP hD hS => ?_)
      obtain ⟨now_2, rfl⟩ : ∃ zz, zz = zu := ⟨zu, rfl⟩
      have hP : va_P D vwCl (W_X8 ca a rowSizes rows textSizes texts now_2 keeps kept asked upper lower finding findings read at_ costs ways reach) H := hP
      have hD : va_D _ (W_X8 ca a rowSizes rows textSizes texts now_2 keeps kept asked upper lower finding findings read at_ costs ways reach) := hD
      try dsimp only at h
      refine lv_aload_n hx hb dX8_on_45 rfl (lv_at hl 0 rfl) ?_
      refine va_get (D := D) (ci := 7) (v := .ref (a 5)) (C := RX8) (T := TX8) (N := 17) hx hb hts hi_X8_on_X8 hown hK.1 hP 0 rfl rfl 4 (by decide) (hts _ k_X8_on_4) (fun _ h9 => h9) rfl dX8_on_46 ?_
      refine lv_iconst (v := (1)) hx hb dX8_on_49 (by decide) ?_
      refine x_iald (v := now_2 1) hx hb hK hP 5 rfl (vin_lit (by decide)) rfl dX8_on_50 ?_
      exact W.iret (v := now_2 1) hx hb hr (fun zt ht hW => ⟨⟨now_2 1, (now_2, finding, findings), rfl, h, by rw [ht]; exact hP⟩, hS.F ht⟩) hS.2.2 dX8_on_51
    · have h := h.2 hc
      refine lv_aload_n hx hb dX8_on_23 rfl (lv_at hl 0 rfl) ?_
      refine lv_iconst (v := (1)) hx hb dX8_on_24 (by decide) ?_
      refine wr_calli (ws1 := fun zu => W_X8 ca a rowSizes rows textSizes texts now keeps kept asked upper lower zu.1 zu.2 read at_ costs ways reach) (wr := ([] : List Nat).filterMap (fun zi => (W_X8 ca a rowSizes rows textSizes texts now keeps kept asked upper lower finding findings read at_ costs ways reach : va_W)[zi]?)) (n := 13) (va_runV (As := [.int (1 : Int32)]) (rest := []) ⟨hx, hb, hml, hown, hts⟩ (c_X8_found l D ca a rowSizes rows textSizes texts now keeps kept asked upper lower finding findings read at_ costs ways reach (1 : Int32) _ (hD.subM [0, 1, 2, 3, 4, 5, 6, 7, 8, 9, 10, 11, 12] (by decide) rfl) h) (cwV 1 hts gX8_on_X8_found rfl rfl rfl (by decide +kernel) ⟨Nat.le_of_ble_eq_true rfl, Nat.le_of_ble_eq_true rfl⟩) (PcX.preV (q := (RX8, TX8, 17)) (ci := 7) (q0 := 0) hK hP rfl rfl hP) rfl rfl hl.1 rfl (lv_room (Nat.le_of_ble_eq_true rfl)) dX8_on_25 ⟨Nat.le_of_ble_eq_true rfl, Nat.le_of_ble_eq_true rfl⟩) hP hD hS [0, 1, 2, 3, 4, 5, 6, 7, 8, 9, 10, 11, 12] [] rfl (fun _ => rfl) rfl (fun _ => rfl) (fun _ => rfl) (fun _ => rfl) (by decide +kernel) (by decide +kernel) (fun r3 zu H locs h hP hD hS => ?_)
      obtain ⟨finding_4, findings_5⟩ := zu
      have hP : va_P D vwCl (W_X8 ca a rowSizes rows textSizes texts now keeps kept asked upper lower finding_4 findings_5 read at_ costs ways reach) H := hP
      have hD : va_D _ (W_X8 ca a rowSizes rows textSizes texts now keeps kept asked upper lower finding_4 findings_5 read at_ costs ways reach) := hD
      try dsimp only at h
      exact W.iret (v := r3) hx hb hr (fun zt ht hW => ⟨⟨r3, (now, finding_4, findings_5), rfl, h, by rw [ht]; exact hP⟩, hS.F ht⟩) hS.2.2 dX8_on_28
  · have h := h.2 hc
    refine lv_iconst (v := (-1)) hx hb dX8_on_12 (by decide) ?_
    exact W.iret (v := (-1 : Int32)) hx hb hr (fun zt ht hW => ⟨⟨(-1 : Int32), (now, finding, findings), rfl, h, by rw [ht]; exact hP⟩, hS.F ht⟩) hS.2.2 dX8_on_13

-- IronedQuarrelsModel.leans(I)I
def wp_X8_leans (now : Nat → Int32) (i : Int32) (post : Int32 → Prop) : Prop :=
  wp_X8_isSaying now i (fun r1 => (r1 = 0 → (post (-1 : Int32))) ∧ (¬ r1 = 0 → (wp_X8_leansOf now i (fun r2 => post r2))))
def rm_X8_leans : Room := { frames := 2, cells := 0, slots := 0, locals := 46 }
theorem hi_X8_leans_X8 : ∀ w ∈ wsX80, w ∈ wsX8_leans := fun w h => List.mem_cons_of_mem _ (List.mem_append_right _ h)
set_option maxHeartbeats 4000000 in
set_option maxRecDepth 100000 in
theorem c_X8_leans (l : Launch) (D : va_G) (ca : Nat → ClassId) (a : Nat → Nat) (rowSizes : Nat → Int32) (rows : Nat → Int32) (textSizes : Nat → Int32) (texts : Nat → Int32) (now : Nat → Int32) (keeps : Nat → Int32) (kept : Nat → Int32) (asked : Int32) (upper : Int64) (lower : Int64) (finding : Int32) (findings : Nat → Int32) (read : Nat → Int32) (at_ : Int32) (costs : Nat → Int32) (ways : Nat → Int64) (reach : Nat → Int32) (i : Int32) (post : Int32 → Prop) (h : wp_X8_leans now i post) : Met l yX8_leans wsX8_leans rm_X8_leans (PcX D ca [.ref (a 0), .int i] (W_X8 ca a rowSizes rows textSizes texts now keeps kept asked upper lower finding findings read at_ costs ways reach)) (rdI post) 0 0 (fun _ => False) := by
  refine Met.ofW (cc := cX8_leans) (maxL := 2) (ret := (some .int)) (by decide) rfl ?_
  intro zp ze zs zm za zb zt zc z1 B hml hv
  obtain ⟨rfl, hP, hK⟩ := hv
  have hx := B.exec
  have hb := B.bytes
  have hr := B.returns
  have hts := atoms_spec (ws := wsX8_leans) B.pre
  have hown : zs.vm.findClass RX8 = some zm.cls := findClass_of_methodNamed B.named
  have hlocks := B.notSynchronized
  have hl := lv_entry ([.ref (a 0), .int i]) (n := 2) (Nat.le_of_ble_eq_true rfl)
  rw [lg_entry_eq]
  generalize (lg_sl ([.ref (a 0), .int i]) ++ List.replicate (2 - (lg_sl ([.ref (a 0), .int i])).length) Slot.unset).toArray = ls at hl ⊢
  replace hl : lv_has ls 2 [(0, .ref (a 0)), (1, .int i)] := hl
  show W zp l ze rm_X8_leans zs zm ([.ref (a 0), .int i] : List Value).toArray zb zt zc zs.heap [] 0 0 (MQ zb (rdI post) ([.ref (a 0), .int i] : List Value).toArray zs 0 0 (fun _ => False)) (F0 zm 0 ls [])
  unfold wp_X8_leans at h
  refine lv_aload_n hx hb dX8_leans_0 rfl (lv_at hl 0 rfl) ?_
  refine lv_iload_n hx hb dX8_leans_1 rfl (lv_at hl 1 rfl) ?_
  refine rd_callz (va_runV (As := [.int i]) (rest := []) ⟨hx, hb, hml, hown, hts⟩ (c_X8_isSaying l D ca a rowSizes rows textSizes texts now keeps kept asked upper lower finding findings read at_ costs ways reach i _ h) (cwV 1 hts gX8_leans_X8_isSaying rfl rfl rfl (by decide +kernel) ⟨Nat.le_of_ble_eq_true rfl, Nat.le_of_ble_eq_true rfl⟩) (PcX.preV (q := (RX8, TX8, 17)) (ci := 7) (q0 := 0) hK hP rfl rfl hP) rfl rfl hl.1 rfl (lv_room (Nat.le_of_ble_eq_true rfl)) dX8_leans_2 ⟨Nat.le_of_ble_eq_true rfl, Nat.le_of_ble_eq_true rfl⟩) (fun r1 h hz_r1 => ?_)
  try dsimp only at h
  refine lv_if_eq (tgt := 16) hx hb dX8_leans_5 (by decide) (fun hc => ?_) (fun hc => ?_)
  · have h := h.1 hc
    refine lv_iconst (v := (-1)) hx hb dX8_leans_16 (by decide) ?_
    exact W.iret (v := (-1 : Int32)) hx hb hr (fun zt ht hW => ⟨(-1 : Int32), rfl, h, ht⟩) (fun zq hq => absurd hq List.not_mem_nil) dX8_leans_17
  · have h := h.2 hc
    refine lv_aload_n hx hb dX8_leans_8 rfl (lv_at hl 0 rfl) ?_
    refine lv_iload_n hx hb dX8_leans_9 rfl (lv_at hl 1 rfl) ?_
    refine rd_calli (va_runV (As := [.int i]) (rest := []) ⟨hx, hb, hml, hown, hts⟩ (c_X8_leansOf l D ca a rowSizes rows textSizes texts now keeps kept asked upper lower finding findings read at_ costs ways reach i _ h) (cwV 1 hts gX8_leans_X8_leansOf rfl rfl rfl (by decide +kernel) ⟨Nat.le_of_ble_eq_true rfl, Nat.le_of_ble_eq_true rfl⟩) (PcX.preV (q := (RX8, TX8, 17)) (ci := 7) (q0 := 0) hK hP rfl rfl hP) rfl rfl hl.1 rfl (lv_room (Nat.le_of_ble_eq_true rfl)) dX8_leans_10 ⟨Nat.le_of_ble_eq_true rfl, Nat.le_of_ble_eq_true rfl⟩) (fun r2 h => ?_)
    try dsimp only at h
    refine lv_goto (tgt := 17) hx hb dX8_leans_13 (by decide) ?_
    exact W.iret (v := r2) hx hb hr (fun zt ht hW => ⟨r2, rfl, h, ht⟩) (fun zq hq => absurd hq List.not_mem_nil) dX8_leans_17

-- IronedQuarrelsModel.feeds(I)I
def wb_X8_feeds_14 (now : Nat → Int32) (i : Int32) (post : Int32 → Prop) (K14 : (Int32) → (Int32) → Prop) (x2 : Int32) (x3 : Int32) : Prop :=
  ((now 0) ≤ x3 → (post x2)) ∧ (¬ (now 0) ≤ x3 → (wp_X8_leansOf now x3 (fun r2 => wp_X8_has r2 i (fun r3 => (r3 = 0 → (K14 (x2 ||| (0 : Int32)) (x3 + 1))) ∧ (¬ r3 = 0 → (K14 (x2 ||| ((1 : Int32) <<< (x3 &&& 31))) (x3 + 1)))))))
def wl_X8_feeds_14 (now : Nat → Int32) (i : Int32) (post : Int32 → Prop) : Nat → (Int32) → (Int32) → Prop
  | 0 => fun _ _ => False
  | zn + 1 => wb_X8_feeds_14 now i post (wl_X8_feeds_14 now i post zn)
def wp_X8_feeds (now : Nat → Int32) (i : Int32) (post : Int32 → Prop) : Prop :=
  wp_X8_isSaying now i (fun r1 => (¬ r1 = 0 → (∃ zn, wl_X8_feeds_14 now i post zn (0 : Int32) (0 : Int32))) ∧ (r1 = 0 → (post (-1 : Int32))))
def rm_X8_feeds : Room := { frames := 2, cells := 0, slots := 0, locals := 46 }
theorem k_X8_feeds_1 : Cond.fieldLink RX8 22 "IronedQuarrelsModel" "now" "[I" ∈ wsX8_feeds := List.mem_of_getElem? (i := 1) (by decide +kernel)
theorem hi_X8_feeds_X8 : ∀ w ∈ wsX80, w ∈ wsX8_feeds := fun w h => List.mem_cons_of_mem _ (List.mem_append_right _ h)
set_option maxHeartbeats 4000000 in
set_option maxRecDepth 100000 in
theorem c_X8_feeds (l : Launch) (D : va_G) (ca : Nat → ClassId) (a : Nat → Nat) (rowSizes : Nat → Int32) (rows : Nat → Int32) (textSizes : Nat → Int32) (texts : Nat → Int32) (now : Nat → Int32) (keeps : Nat → Int32) (kept : Nat → Int32) (asked : Int32) (upper : Int64) (lower : Int64) (finding : Int32) (findings : Nat → Int32) (read : Nat → Int32) (at_ : Int32) (costs : Nat → Int32) (ways : Nat → Int64) (reach : Nat → Int32) (i : Int32) (post : Int32 → Prop) (h : wp_X8_feeds now i post) : Met l yX8_feeds wsX8_feeds rm_X8_feeds (PcX D ca [.ref (a 0), .int i] (W_X8 ca a rowSizes rows textSizes texts now keeps kept asked upper lower finding findings read at_ costs ways reach)) (rdI post) 0 0 (fun _ => False) := by
  refine Met.ofW (cc := cX8_feeds) (maxL := 4) (ret := (some .int)) (by decide) rfl ?_
  intro zp ze zs zm za zb zt zc z1 B hml hv
  obtain ⟨rfl, hP, hK⟩ := hv
  have hx := B.exec
  have hb := B.bytes
  have hr := B.returns
  have hts := atoms_spec (ws := wsX8_feeds) B.pre
  have hown : zs.vm.findClass RX8 = some zm.cls := findClass_of_methodNamed B.named
  have hlocks := B.notSynchronized
  have hl := lv_entry ([.ref (a 0), .int i]) (n := 4) (Nat.le_of_ble_eq_true rfl)
  rw [lg_entry_eq]
  generalize (lg_sl ([.ref (a 0), .int i]) ++ List.replicate (4 - (lg_sl ([.ref (a 0), .int i])).length) Slot.unset).toArray = ls at hl ⊢
  replace hl : lv_has ls 4 [(0, .ref (a 0)), (1, .int i)] := hl
  show W zp l ze rm_X8_feeds zs zm ([.ref (a 0), .int i] : List Value).toArray zb zt zc zs.heap [] 0 0 (MQ zb (rdI post) ([.ref (a 0), .int i] : List Value).toArray zs 0 0 (fun _ => False)) (F0 zm 0 ls [])
  have w_14 : ∀ (zn : Nat) (x2 : Int32) (x3 : Int32), wl_X8_feeds_14 now i post zn x2 x3 → ∀ ls : Array Slot, lv_has ls 4 [(0, .ref (a 0)), (1, .int i), (2, .int x2), (3, .int x3)] → W zp l ze rm_X8_feeds zs zm ([.ref (a 0), .int i] : List Value).toArray zb zt zc zs.heap [] 0 0 (MQ zb (rdI post) ([.ref (a 0), .int i] : List Value).toArray zs 0 0 (fun _ => False)) (F0 zm 14 ls []) := by
    intro zn
    induction zn with
    | zero => intro x2 x3 h; exact h.elim
    | succ zn ih14 =>
      intro x2 x3 h ls hl
      replace h : wb_X8_feeds_14 now i post (wl_X8_feeds_14 now i post zn) x2 x3 := h
      unfold wb_X8_feeds_14 at h
      refine lv_iload_n hx hb dX8_feeds_14 rfl (lv_at hl 3 rfl) ?_
      refine lv_aload_n hx hb dX8_feeds_15 rfl (lv_at hl 0 rfl) ?_
      refine va_get (D := D) (ci := 7) (v := .ref (a 5)) (C := RX8) (T := TX8) (N := 17) hx hb hts hi_X8_feeds_X8 hown hK.1 hP 0 rfl rfl 4 (by decide) (hts _ k_X8_feeds_1) (fun _ h9 => h9) rfl dX8_feeds_16 ?_
      refine lv_iconst (v := (0)) hx hb dX8_feeds_19 (by decide) ?_
      refine x_iald (v := now 0) hx hb hK hP 5 rfl (vin_lit (by decide)) rfl dX8_feeds_20 ?_
      refine lv_icmp_ge (tgt := 52) hx hb dX8_feeds_21 (by decide) (fun hc => ?_) (fun hc => ?_)
      · have h := h.1 hc
        refine lv_iload_n hx hb dX8_feeds_52 rfl (lv_at hl 2 rfl) ?_
        exact W.iret (v := x2) hx hb hr (fun zt ht hW => ⟨x2, rfl, h, ht⟩) (fun zq hq => absurd hq List.not_mem_nil) dX8_feeds_53
      · have h := h.2 hc
        refine lv_iload_n hx hb dX8_feeds_24 rfl (lv_at hl 2 rfl) ?_
        refine lv_aload_n hx hb dX8_feeds_25 rfl (lv_at hl 0 rfl) ?_
        refine lv_iload_n hx hb dX8_feeds_26 rfl (lv_at hl 3 rfl) ?_
        refine rd_calli (va_runV (As := [.int x3]) (rest := [.int x2]) ⟨hx, hb, hml, hown, hts⟩ (c_X8_leansOf l D ca a rowSizes rows textSizes texts now keeps kept asked upper lower finding findings read at_ costs ways reach x3 _ h) (cwV 1 hts gX8_feeds_X8_leansOf rfl rfl rfl (by decide +kernel) ⟨Nat.le_of_ble_eq_true rfl, Nat.le_of_ble_eq_true rfl⟩) (PcX.preV (q := (RX8, TX8, 17)) (ci := 7) (q0 := 0) hK hP rfl rfl hP) rfl rfl hl.1 rfl (lv_room (Nat.le_of_ble_eq_true rfl)) dX8_feeds_27 ⟨Nat.le_of_ble_eq_true rfl, Nat.le_of_ble_eq_true rfl⟩) (fun r2 h => ?_)
        try dsimp only at h
        refine lv_iload_n hx hb dX8_feeds_30 rfl (lv_at hl 1 rfl) ?_
        refine rd_callz (va_runS (As := [.int r2, .int i]) (rest := [.int x2]) ⟨hx, hb, hml, hown, hts⟩ (c_X8_has l D ca   r2 i _ h) (va_cwS 2 hts gX8_feeds_X8_has rfl rfl rfl (by decide +kernel) ⟨Nat.le_of_ble_eq_true rfl, Nat.le_of_ble_eq_true rfl⟩) (PcX.preS hK (fun zk zq zh => by simp at zh)) rfl rfl hl.1 rfl (lv_room (Nat.le_of_ble_eq_true rfl)) dX8_feeds_31 ⟨Nat.le_of_ble_eq_true rfl, Nat.le_of_ble_eq_true rfl⟩) (fun r3 h hz_r3 => ?_)
        try dsimp only at h
        refine lv_if_eq (tgt := 43) hx hb dX8_feeds_34 (by decide) (fun hc => ?_) (fun hc => ?_)
        · have h := h.1 hc
          refine lv_iconst (v := (0)) hx hb dX8_feeds_43 (by decide) ?_
          refine lv_ior hx hb dX8_feeds_44 ?_
          refine lv_istore_n (lv' := [(2, .int (x2 ||| (0 : Int32))), (0, .ref (a 0)), (1, .int i), (3, .int x3)]) hx hb dX8_feeds_45 rfl hl (by decide) rfl (fun ls hl => ?_)
          refine lv_iinc (v := x3 + 1) (lv' := [(3, .int (x3 + 1)), (2, .int (x2 ||| (0 : Int32))), (0, .ref (a 0)), (1, .int i)]) hx hb dX8_feeds_46 hl (k := 3) rfl rfl (by decide) rfl (fun ls hl => ?_)
          refine lv_goto (tgt := 14) hx hb dX8_feeds_49 (by decide) ?_
          exact ih14 (x2 ||| (0 : Int32)) (x3 + 1) h ls (lv_sub hl [2, 3, 1, 0] rfl)
        · have h := h.2 hc
          refine lv_iconst (v := (1)) hx hb dX8_feeds_37 (by decide) ?_
          refine lv_iload_n hx hb dX8_feeds_38 rfl (lv_at hl 3 rfl) ?_
          refine lv_ishl hx hb dX8_feeds_39 ?_
          refine lv_goto (tgt := 44) hx hb dX8_feeds_40 (by decide) ?_
          refine lv_ior hx hb dX8_feeds_44 ?_
          refine lv_istore_n (lv' := [(2, .int (x2 ||| ((1 : Int32) <<< (x3 &&& 31)))), (0, .ref (a 0)), (1, .int i), (3, .int x3)]) hx hb dX8_feeds_45 rfl hl (by decide) rfl (fun ls hl => ?_)
          refine lv_iinc (v := x3 + 1) (lv' := [(3, .int (x3 + 1)), (2, .int (x2 ||| ((1 : Int32) <<< (x3 &&& 31)))), (0, .ref (a 0)), (1, .int i)]) hx hb dX8_feeds_46 hl (k := 3) rfl rfl (by decide) rfl (fun ls hl => ?_)
          refine lv_goto (tgt := 14) hx hb dX8_feeds_49 (by decide) ?_
          exact ih14 (x2 ||| ((1 : Int32) <<< (x3 &&& 31))) (x3 + 1) h ls (lv_sub hl [2, 3, 1, 0] rfl)
  unfold wp_X8_feeds at h
  refine lv_aload_n hx hb dX8_feeds_0 rfl (lv_at hl 0 rfl) ?_
  refine lv_iload_n hx hb dX8_feeds_1 rfl (lv_at hl 1 rfl) ?_
  refine rd_callz (va_runV (As := [.int i]) (rest := []) ⟨hx, hb, hml, hown, hts⟩ (c_X8_isSaying l D ca a rowSizes rows textSizes texts now keeps kept asked upper lower finding findings read at_ costs ways reach i _ h) (cwV 1 hts gX8_feeds_X8_isSaying rfl rfl rfl (by decide +kernel) ⟨Nat.le_of_ble_eq_true rfl, Nat.le_of_ble_eq_true rfl⟩) (PcX.preV (q := (RX8, TX8, 17)) (ci := 7) (q0 := 0) hK hP rfl rfl hP) rfl rfl hl.1 rfl (lv_room (Nat.le_of_ble_eq_true rfl)) dX8_feeds_2 ⟨Nat.le_of_ble_eq_true rfl, Nat.le_of_ble_eq_true rfl⟩) (fun r1 h hz_r1 => ?_)
  try dsimp only at h
  refine lv_if_ne (tgt := 10) hx hb dX8_feeds_5 (by decide) (fun hc => ?_) (fun hc => ?_)
  · have h := h.1 hc
    refine lv_iconst (v := (0)) hx hb dX8_feeds_10 (by decide) ?_
    refine lv_istore_n (lv' := [(2, .int (0 : Int32)), (0, .ref (a 0)), (1, .int i)]) hx hb dX8_feeds_11 rfl hl (by decide) rfl (fun ls hl => ?_)
    refine lv_iconst (v := (0)) hx hb dX8_feeds_12 (by decide) ?_
    refine lv_istore_n (lv' := [(3, .int (0 : Int32)), (2, .int (0 : Int32)), (0, .ref (a 0)), (1, .int i)]) hx hb dX8_feeds_13 rfl hl (by decide) rfl (fun ls hl => ?_)
    obtain ⟨zn, h⟩ := h
    exact w_14  zn (0 : Int32) (0 : Int32) h ls (lv_sub hl [2, 3, 1, 0] rfl)
  · have h := h.2 hc
    refine lv_iconst (v := (-1)) hx hb dX8_feeds_8 (by decide) ?_
    exact W.iret (v := (-1 : Int32)) hx hb hr (fun zt ht hW => ⟨(-1 : Int32), rfl, h, ht⟩) (fun zq hq => absurd hq List.not_mem_nil) dX8_feeds_9

-- IronedQuarrelsModel.first(I)I
def wp_X8_first (now : Nat → Int32) (asked : Int32) (i : Int32) (post : Int32 → (Int32) → Prop) : Prop :=
  wp_X8_isSaying now i (fun r1 => (r1 = 0 → (post (-1 : Int32) asked)) ∧ (¬ r1 = 0 → (wp_X8_rootOf now i (fun r2 => wp_X8_leansOf now i (fun r3 => wp_X8_bits r3 (fun r4 => wp_X8_answer r2 r4 (fun r5 asked_6 => post r5 asked_6)))))))
def rm_X8_first : Room := { frames := 2, cells := 0, slots := 0, locals := 46 }
theorem hi_X8_first_X8 : ∀ w ∈ wsX80, w ∈ wsX8_first := fun w h => List.mem_cons_of_mem _ (List.mem_append_right _ h)
set_option maxHeartbeats 4000000 in
set_option maxRecDepth 100000 in
theorem c_X8_first (l : Launch) (D : va_G) (ca : Nat → ClassId) (a : Nat → Nat) (rowSizes : Nat → Int32) (rows : Nat → Int32) (textSizes : Nat → Int32) (texts : Nat → Int32) (now : Nat → Int32) (keeps : Nat → Int32) (kept : Nat → Int32) (asked : Int32) (upper : Int64) (lower : Int64) (finding : Int32) (findings : Nat → Int32) (read : Nat → Int32) (at_ : Int32) (costs : Nat → Int32) (ways : Nat → Int64) (reach : Nat → Int32) (i : Int32) (post : Int32 → (Int32) → Prop) (hd : va_D (fun _ => True) (W_X8 ca a rowSizes rows textSizes texts now keeps kept asked upper lower finding findings read at_ costs ways reach)) (h : wp_X8_first now asked i post) : Met l yX8_first wsX8_first rm_X8_first (PcX D ca [.ref (a 0), .int i] (W_X8 ca a rowSizes rows textSizes texts now keeps kept asked upper lower finding findings read at_ costs ways reach)) (wrI (S := (Int32)) D (W_X8 ca a rowSizes rows textSizes texts now keeps kept asked upper lower finding findings read at_ costs ways reach) (fun zu => W_X8 ca a rowSizes rows textSizes texts now keeps kept zu upper lower finding findings read at_ costs ways reach) (fun zr zu => post zr zu)) 0 0 (adr (W_X8 ca a rowSizes rows textSizes texts now keeps kept asked upper lower finding findings read at_ costs ways reach)) := by
  refine Met.ofW (cc := cX8_first) (maxL := 2) (ret := (some .int)) (by decide) rfl ?_
  intro zp ze zs zm za zb zt zc z1 B hml hv
  obtain ⟨rfl, hP, hK⟩ := hv
  have hx := B.exec
  have hb := B.bytes
  have hr := B.returns
  have hts := atoms_spec (ws := wsX8_first) B.pre
  have hown : zs.vm.findClass RX8 = some zm.cls := findClass_of_methodNamed B.named
  have hlocks := B.notSynchronized
  have hD : va_D (adr (W_X8 ca a rowSizes rows textSizes texts now keeps kept asked upper lower finding findings read at_ costs ways reach)) (W_X8 ca a rowSizes rows textSizes texts now keeps kept asked upper lower finding findings read at_ costs ways reach) := hd.adr
  have hS : va_S (adr (W_X8 ca a rowSizes rows textSizes texts now keeps kept asked upper lower finding findings read at_ costs ways reach)) zs.heap zs.heap [] := va_S.rf
  have hl := lv_entry ([.ref (a 0), .int i]) (n := 2) (Nat.le_of_ble_eq_true rfl)
  rw [lg_entry_eq]
  generalize (lg_sl ([.ref (a 0), .int i]) ++ List.replicate (2 - (lg_sl ([.ref (a 0), .int i])).length) Slot.unset).toArray = ls at hl ⊢
  replace hl : lv_has ls 2 [(0, .ref (a 0)), (1, .int i)] := hl
  show W zp l ze rm_X8_first zs zm ([.ref (a 0), .int i] : List Value).toArray zb zt zc zs.heap [] 0 0 (MQ zb (wrI (S := (Int32)) D (W_X8 ca a rowSizes rows textSizes texts now keeps kept asked upper lower finding findings read at_ costs ways reach) (fun zu => W_X8 ca a rowSizes rows textSizes texts now keeps kept zu upper lower finding findings read at_ costs ways reach) (fun zr zu => post zr zu)) ([.ref (a 0), .int i] : List Value).toArray zs 0 0 (adr (W_X8 ca a rowSizes rows textSizes texts now keeps kept asked upper lower finding findings read at_ costs ways reach))) (F0 zm 0 ls [])
  unfold wp_X8_first at h
  refine lv_aload_n hx hb dX8_first_0 rfl (lv_at hl 0 rfl) ?_
  refine lv_iload_n hx hb dX8_first_1 rfl (lv_at hl 1 rfl) ?_
  refine rd_callz (va_runV (As := [.int i]) (rest := []) ⟨hx, hb, hml, hown, hts⟩ (c_X8_isSaying l D ca a rowSizes rows textSizes texts now keeps kept asked upper lower finding findings read at_ costs ways reach i _ h) (cwV 1 hts gX8_first_X8_isSaying rfl rfl rfl (by decide +kernel) ⟨Nat.le_of_ble_eq_true rfl, Nat.le_of_ble_eq_true rfl⟩) (PcX.preV (q := (RX8, TX8, 17)) (ci := 7) (q0 := 0) hK hP rfl rfl hP) rfl rfl hl.1 rfl (lv_room (Nat.le_of_ble_eq_true rfl)) dX8_first_2 ⟨Nat.le_of_ble_eq_true rfl, Nat.le_of_ble_eq_true rfl⟩) (fun r1 h hz_r1 => ?_)
  try dsimp only at h
  refine lv_if_eq (tgt := 28) hx hb dX8_first_5 (by decide) (fun hc => ?_) (fun hc => ?_)
  · have h := h.1 hc
    refine lv_iconst (v := (-1)) hx hb dX8_first_28 (by decide) ?_
    exact W.iret (v := (-1 : Int32)) hx hb hr (fun zt ht hW => ⟨⟨(-1 : Int32), asked, rfl, h, by rw [ht]; exact hP⟩, hS.F ht⟩) hS.2.2 dX8_first_29
  · have h := h.2 hc
    refine lv_aload_n hx hb dX8_first_8 rfl (lv_at hl 0 rfl) ?_
    refine lv_aload_n hx hb dX8_first_9 rfl (lv_at hl 0 rfl) ?_
    refine lv_iload_n hx hb dX8_first_10 rfl (lv_at hl 1 rfl) ?_
    refine rd_calli (va_runV (As := [.int i]) (rest := [.ref (a 0)]) ⟨hx, hb, hml, hown, hts⟩ (c_X8_rootOf l D ca a rowSizes rows textSizes texts now keeps kept asked upper lower finding findings read at_ costs ways reach i _ h) (cwV 1 hts gX8_first_X8_rootOf rfl rfl rfl (by decide +kernel) ⟨Nat.le_of_ble_eq_true rfl, Nat.le_of_ble_eq_true rfl⟩) (PcX.preV (q := (RX8, TX8, 17)) (ci := 7) (q0 := 0) hK hP rfl rfl hP) rfl rfl hl.1 rfl (lv_room (Nat.le_of_ble_eq_true rfl)) dX8_first_11 ⟨Nat.le_of_ble_eq_true rfl, Nat.le_of_ble_eq_true rfl⟩) (fun r2 h => ?_)
    try dsimp only at h
    refine lv_aload_n hx hb dX8_first_14 rfl (lv_at hl 0 rfl) ?_
    refine lv_iload_n hx hb dX8_first_15 rfl (lv_at hl 1 rfl) ?_
    refine rd_calli (va_runV (As := [.int i]) (rest := [.int r2, .ref (a 0)]) ⟨hx, hb, hml, hown, hts⟩ (c_X8_leansOf l D ca a rowSizes rows textSizes texts now keeps kept asked upper lower finding findings read at_ costs ways reach i _ h) (cwV 1 hts gX8_first_X8_leansOf rfl rfl rfl (by decide +kernel) ⟨Nat.le_of_ble_eq_true rfl, Nat.le_of_ble_eq_true rfl⟩) (PcX.preV (q := (RX8, TX8, 17)) (ci := 7) (q0 := 0) hK hP rfl rfl hP) rfl rfl hl.1 rfl (lv_room (Nat.le_of_ble_eq_true rfl)) dX8_first_16 ⟨Nat.le_of_ble_eq_true rfl, Nat.le_of_ble_eq_true rfl⟩) (fun r3 h => ?_)
    try dsimp only at h
    refine rd_calli (va_runS (As := [.int r3]) (rest := [.int r2, .ref (a 0)]) ⟨hx, hb, hml, hown, hts⟩ (c_X8_bits l D ca   r3 _ h) (va_cwS 1 hts gX8_first_X8_bits rfl rfl rfl (by decide +kernel) ⟨Nat.le_of_ble_eq_true rfl, Nat.le_of_ble_eq_true rfl⟩) (PcX.preS hK (fun zk zq zh => by simp at zh)) rfl rfl hl.1 rfl (lv_room (Nat.le_of_ble_eq_true rfl)) dX8_first_19 ⟨Nat.le_of_ble_eq_true rfl, Nat.le_of_ble_eq_true rfl⟩) (fun r4 h => ?_)
    try dsimp only at h
    refine wr_calli (ws1 := fun zu => W_X8 ca a rowSizes rows textSizes texts now keeps kept zu upper lower finding findings read at_ costs ways reach) (wr := ([] : List Nat).filterMap (fun zi => (W_X8 ca a rowSizes rows textSizes texts now keeps kept asked upper lower finding findings read at_ costs ways reach : va_W)[zi]?)) (n := 13) (va_runV (As := [.int r2, .int r4]) (rest := []) ⟨hx, hb, hml, hown, hts⟩ (c_X8_answer l D ca a rowSizes rows textSizes texts now keeps kept asked upper lower finding findings read at_ costs ways reach r2 r4 _ (hD.subM [0, 1, 2, 3, 4, 5, 6, 7, 8, 9, 10, 11, 12] (by decide) rfl) h) (cwV 2 hts gX8_first_X8_answer rfl rfl rfl (by decide +kernel) ⟨Nat.le_of_ble_eq_true rfl, Nat.le_of_ble_eq_true rfl⟩) (PcX.preV (q := (RX8, TX8, 17)) (ci := 7) (q0 := 0) hK hP rfl rfl hP) rfl rfl hl.1 rfl (lv_room (Nat.le_of_ble_eq_true rfl)) dX8_first_22 ⟨Nat.le_of_ble_eq_true rfl, Nat.le_of_ble_eq_true rfl⟩) hP hD hS [0, 1, 2, 3, 4, 5, 6, 7, 8, 9, 10, 11, 12] [] rfl (fun _ => rfl) rfl (fun _ => rfl) (fun _ => rfl) (fun _ => rfl) (by decide +kernel) (by decide +kernel) (fun r5 zu H locs h hP hD hS => ?_)
    obtain ⟨asked_6, rfl⟩ : ∃ zz, zz = zu := ⟨zu, rfl⟩
    have hP : va_P D vwCl (W_X8 ca a rowSizes rows textSizes texts now keeps kept asked_6 upper lower finding findings read at_ costs ways reach) H := hP
    have hD : va_D _ (W_X8 ca a rowSizes rows textSizes texts now keeps kept asked_6 upper lower finding findings read at_ costs ways reach) := hD
    try dsimp only at h
    refine lv_goto (tgt := 29) hx hb dX8_first_25 (by decide) ?_
    exact W.iret (v := r5) hx hb hr (fun zt ht hW => ⟨⟨r5, asked_6, rfl, h, by rw [ht]; exact hP⟩, hS.F ht⟩) hS.2.2 dX8_first_29

-- IronedQuarrelsModel.bundles()I
def wb_X8_bundles_4 (now : Nat → Int32) (post : Int32 → (Int32) → Prop) (K4 : (Int32) → (Int32) → (Int32) → Prop) (asked : Int32) (x1 : Int32) (x2 : Int32) : Prop :=
  ((now 0) ≤ x2 → (wp_X8_bits x1 (fun r1 => wp_X8_answer r1 x1 (fun r2 asked_3 => post r2 asked_3)))) ∧ (¬ (now 0) ≤ x2 → (wp_X8_has (now 2) x2 (fun r4 => (r4 = 0 → (K4 asked (x1 ||| (0 : Int32)) (x2 + 1))) ∧ (¬ r4 = 0 → (wp_X8_rootOf now x2 (fun r5 => K4 asked (x1 ||| ((1 : Int32) <<< (r5 &&& 31))) (x2 + 1)))))))
def wl_X8_bundles_4 (now : Nat → Int32) (post : Int32 → (Int32) → Prop) : Nat → (Int32) → (Int32) → (Int32) → Prop
  | 0 => fun _ _ _ => False
  | zn + 1 => wb_X8_bundles_4 now post (wl_X8_bundles_4 now post zn)
def wp_X8_bundles (now : Nat → Int32) (asked : Int32) (post : Int32 → (Int32) → Prop) : Prop :=
  ∃ zn, wl_X8_bundles_4 now post zn asked (0 : Int32) (0 : Int32)
def rm_X8_bundles : Room := { frames := 1, cells := 0, slots := 0, locals := 22 }
theorem k_X8_bundles_1 : Cond.fieldLink RX8 22 "IronedQuarrelsModel" "now" "[I" ∈ wsX8_bundles := List.mem_of_getElem? (i := 1) (by decide +kernel)
theorem hi_X8_bundles_X8 : ∀ w ∈ wsX80, w ∈ wsX8_bundles := fun w h => List.mem_cons_of_mem _ (List.mem_append_right _ h)
set_option maxHeartbeats 4000000 in
set_option maxRecDepth 100000 in
theorem c_X8_bundles (l : Launch) (D : va_G) (ca : Nat → ClassId) (a : Nat → Nat) (rowSizes : Nat → Int32) (rows : Nat → Int32) (textSizes : Nat → Int32) (texts : Nat → Int32) (now : Nat → Int32) (keeps : Nat → Int32) (kept : Nat → Int32) (asked : Int32) (upper : Int64) (lower : Int64) (finding : Int32) (findings : Nat → Int32) (read : Nat → Int32) (at_ : Int32) (costs : Nat → Int32) (ways : Nat → Int64) (reach : Nat → Int32)  (post : Int32 → (Int32) → Prop) (hd : va_D (fun _ => True) (W_X8 ca a rowSizes rows textSizes texts now keeps kept asked upper lower finding findings read at_ costs ways reach)) (h : wp_X8_bundles now asked post) : Met l yX8_bundles wsX8_bundles rm_X8_bundles (PcX D ca [.ref (a 0)] (W_X8 ca a rowSizes rows textSizes texts now keeps kept asked upper lower finding findings read at_ costs ways reach)) (wrI (S := (Int32)) D (W_X8 ca a rowSizes rows textSizes texts now keeps kept asked upper lower finding findings read at_ costs ways reach) (fun zu => W_X8 ca a rowSizes rows textSizes texts now keeps kept zu upper lower finding findings read at_ costs ways reach) (fun zr zu => post zr zu)) 0 0 (adr (W_X8 ca a rowSizes rows textSizes texts now keeps kept asked upper lower finding findings read at_ costs ways reach)) := by
  refine Met.ofW (cc := cX8_bundles) (maxL := 3) (ret := (some .int)) (by decide) rfl ?_
  intro zp ze zs zm za zb zt zc z1 B hml hv
  obtain ⟨rfl, hP, hK⟩ := hv
  have hx := B.exec
  have hb := B.bytes
  have hr := B.returns
  have hts := atoms_spec (ws := wsX8_bundles) B.pre
  have hown : zs.vm.findClass RX8 = some zm.cls := findClass_of_methodNamed B.named
  have hlocks := B.notSynchronized
  have hD : va_D (adr (W_X8 ca a rowSizes rows textSizes texts now keeps kept asked upper lower finding findings read at_ costs ways reach)) (W_X8 ca a rowSizes rows textSizes texts now keeps kept asked upper lower finding findings read at_ costs ways reach) := hd.adr
  have hS : va_S (adr (W_X8 ca a rowSizes rows textSizes texts now keeps kept asked upper lower finding findings read at_ costs ways reach)) zs.heap zs.heap [] := va_S.rf
  have hl := lv_entry ([.ref (a 0)]) (n := 3) (Nat.le_of_ble_eq_true rfl)
  rw [lg_entry_eq]
  generalize (lg_sl ([.ref (a 0)]) ++ List.replicate (3 - (lg_sl ([.ref (a 0)])).length) Slot.unset).toArray = ls at hl ⊢
  replace hl : lv_has ls 3 [(0, .ref (a 0))] := hl
  show W zp l ze rm_X8_bundles zs zm ([.ref (a 0)] : List Value).toArray zb zt zc zs.heap [] 0 0 (MQ zb (wrI (S := (Int32)) D (W_X8 ca a rowSizes rows textSizes texts now keeps kept asked upper lower finding findings read at_ costs ways reach) (fun zu => W_X8 ca a rowSizes rows textSizes texts now keeps kept zu upper lower finding findings read at_ costs ways reach) (fun zr zu => post zr zu)) ([.ref (a 0)] : List Value).toArray zs 0 0 (adr (W_X8 ca a rowSizes rows textSizes texts now keeps kept asked upper lower finding findings read at_ costs ways reach))) (F0 zm 0 ls [])
  have w_4 : ∀ (zn : Nat) (asked : Int32) (x1 : Int32) (x2 : Int32), wl_X8_bundles_4 now post zn asked x1 x2 → ∀ (H : Heap) (locs : List Loc), va_P D vwCl (W_X8 ca a rowSizes rows textSizes texts now keeps kept asked upper lower finding findings read at_ costs ways reach) H → va_D (adr (W_X8 ca a rowSizes rows textSizes texts now keeps kept asked upper lower finding findings read at_ costs ways reach)) (W_X8 ca a rowSizes rows textSizes texts now keeps kept asked upper lower finding findings read at_ costs ways reach) → va_S (adr (W_X8 ca a rowSizes rows textSizes texts now keeps kept asked upper lower finding findings read at_ costs ways reach)) zs.heap H locs → ∀ ls : Array Slot, lv_has ls 3 [(0, .ref (a 0)), (1, .int x1), (2, .int x2)] → W zp l ze rm_X8_bundles zs zm ([.ref (a 0)] : List Value).toArray zb zt zc H locs 0 0 (MQ zb (wrI (S := (Int32)) D (W_X8 ca a rowSizes rows textSizes texts now keeps kept asked upper lower finding findings read at_ costs ways reach) (fun zu => W_X8 ca a rowSizes rows textSizes texts now keeps kept zu upper lower finding findings read at_ costs ways reach) (fun zr zu => post zr zu)) ([.ref (a 0)] : List Value).toArray zs 0 0 (adr (W_X8 ca a rowSizes rows textSizes texts now keeps kept asked upper lower finding findings read at_ costs ways reach))) (F0 zm 4 ls []) := by
    intro zn
    induction zn with
    | zero => intro asked x1 x2 h; exact h.elim
    | succ zn ih4 =>
      intro asked x1 x2 h H locs hP hD hS ls hl
      replace h : wb_X8_bundles_4 now post (wl_X8_bundles_4 now post zn) asked x1 x2 := h
      unfold wb_X8_bundles_4 at h
      refine lv_iload_n hx hb dX8_bundles_4 rfl (lv_at hl 2 rfl) ?_
      refine lv_aload_n hx hb dX8_bundles_5 rfl (lv_at hl 0 rfl) ?_
      refine va_get (D := D) (ci := 7) (v := .ref (a 5)) (C := RX8) (T := TX8) (N := 17) hx hb hts hi_X8_bundles_X8 hown hK.1 hP 0 rfl rfl 4 (by decide) (hts _ k_X8_bundles_1) (fun _ h9 => h9) rfl dX8_bundles_6 ?_
      refine lv_iconst (v := (0)) hx hb dX8_bundles_9 (by decide) ?_
      refine x_iald (v := now 0) hx hb hK hP 5 rfl (vin_lit (by decide)) rfl dX8_bundles_10 ?_
      refine lv_icmp_ge (tgt := 47) hx hb dX8_bundles_11 (by decide) (fun hc => ?_) (fun hc => ?_)
      · have h := h.1 hc
        refine lv_aload_n hx hb dX8_bundles_47 rfl (lv_at hl 0 rfl) ?_
        refine lv_iload_n hx hb dX8_bundles_48 rfl (lv_at hl 1 rfl) ?_
        refine rd_calli (va_runS (As := [.int x1]) (rest := [.ref (a 0)]) ⟨hx, hb, hml, hown, hts⟩ (c_X8_bits l D ca   x1 _ h) (va_cwS 1 hts gX8_bundles_X8_bits rfl rfl rfl (by decide +kernel) ⟨Nat.le_of_ble_eq_true rfl, Nat.le_of_ble_eq_true rfl⟩) (PcX.preS hK (fun zk zq zh => by simp at zh)) rfl rfl hl.1 rfl (lv_room (Nat.le_of_ble_eq_true rfl)) dX8_bundles_49 ⟨Nat.le_of_ble_eq_true rfl, Nat.le_of_ble_eq_true rfl⟩) (fun r1 h => ?_)
        try dsimp only at h
        refine lv_iload_n hx hb dX8_bundles_52 rfl (lv_at hl 1 rfl) ?_
        refine wr_calli (ws1 := fun zu => W_X8 ca a rowSizes rows textSizes texts now keeps kept zu upper lower finding findings read at_ costs ways reach) (wr := ([] : List Nat).filterMap (fun zi => (W_X8 ca a rowSizes rows textSizes texts now keeps kept asked upper lower finding findings read at_ costs ways reach : va_W)[zi]?)) (n := 13) (va_runV (As := [.int r1, .int x1]) (rest := []) ⟨hx, hb, hml, hown, hts⟩ (c_X8_answer l D ca a rowSizes rows textSizes texts now keeps kept asked upper lower finding findings read at_ costs ways reach r1 x1 _ (hD.subM [0, 1, 2, 3, 4, 5, 6, 7, 8, 9, 10, 11, 12] (by decide) rfl) h) (cwV 2 hts gX8_bundles_X8_answer rfl rfl rfl (by decide +kernel) ⟨Nat.le_of_ble_eq_true rfl, Nat.le_of_ble_eq_true rfl⟩) (PcX.preV (q := (RX8, TX8, 17)) (ci := 7) (q0 := 0) hK hP rfl rfl hP) rfl rfl hl.1 rfl (lv_room (Nat.le_of_ble_eq_true rfl)) dX8_bundles_53 ⟨Nat.le_of_ble_eq_true rfl, Nat.le_of_ble_eq_true rfl⟩) hP hD hS [0, 1, 2, 3, 4, 5, 6, 7, 8, 9, 10, 11, 12] [] rfl (fun _ => rfl) rfl (fun _ => rfl) (fun _ => rfl) (fun _ => rfl) (by decide +kernel) (by decide +kernel) (fun r2 zu H locs h hP hD hS => ?_)
        obtain ⟨asked_3, rfl⟩ : ∃ zz, zz = zu := ⟨zu, rfl⟩
        have hP : va_P D vwCl (W_X8 ca a rowSizes rows textSizes texts now keeps kept asked_3 upper lower finding findings read at_ costs ways reach) H := hP
        have hD : va_D _ (W_X8 ca a rowSizes rows textSizes texts now keeps kept asked_3 upper lower finding findings read at_ costs ways reach) := hD
        try dsimp only at h
        exact W.iret (v := r2) hx hb hr (fun zt ht hW => ⟨⟨r2, asked_3, rfl, h, by rw [ht]; exact hP⟩, hS.F ht⟩) hS.2.2 dX8_bundles_56
      · have h := h.2 hc
        refine lv_iload_n hx hb dX8_bundles_14 rfl (lv_at hl 1 rfl) ?_
        refine lv_aload_n hx hb dX8_bundles_15 rfl (lv_at hl 0 rfl) ?_
        refine va_get (D := D) (ci := 7) (v := .ref (a 5)) (C := RX8) (T := TX8) (N := 17) hx hb hts hi_X8_bundles_X8 hown hK.1 hP 0 rfl rfl 4 (by decide) (hts _ k_X8_bundles_1) (fun _ h9 => h9) rfl dX8_bundles_16 ?_
        refine lv_iconst (v := (2)) hx hb dX8_bundles_19 (by decide) ?_
        refine x_iald (v := now 2) hx hb hK hP 5 rfl (vin_lit (by decide)) rfl dX8_bundles_20 ?_
        refine lv_iload_n hx hb dX8_bundles_21 rfl (lv_at hl 2 rfl) ?_
        refine rd_callz (va_runS (As := [.int (now 2), .int x2]) (rest := [.int x1]) ⟨hx, hb, hml, hown, hts⟩ (c_X8_has l D ca   (now 2) x2 _ h) (va_cwS 2 hts gX8_bundles_X8_has rfl rfl rfl (by decide +kernel) ⟨Nat.le_of_ble_eq_true rfl, Nat.le_of_ble_eq_true rfl⟩) (PcX.preS hK (fun zk zq zh => by simp at zh)) rfl rfl hl.1 rfl (lv_room (Nat.le_of_ble_eq_true rfl)) dX8_bundles_22 ⟨Nat.le_of_ble_eq_true rfl, Nat.le_of_ble_eq_true rfl⟩) (fun r4 h hz_r4 => ?_)
        try dsimp only at h
        refine lv_if_eq (tgt := 38) hx hb dX8_bundles_25 (by decide) (fun hc => ?_) (fun hc => ?_)
        · have h := h.1 hc
          refine lv_iconst (v := (0)) hx hb dX8_bundles_38 (by decide) ?_
          refine lv_ior hx hb dX8_bundles_39 ?_
          refine lv_istore_n (lv' := [(1, .int (x1 ||| (0 : Int32))), (0, .ref (a 0)), (2, .int x2)]) hx hb dX8_bundles_40 rfl hl (by decide) rfl (fun ls hl => ?_)
          refine lv_iinc (v := x2 + 1) (lv' := [(2, .int (x2 + 1)), (1, .int (x1 ||| (0 : Int32))), (0, .ref (a 0))]) hx hb dX8_bundles_41 hl (k := 2) rfl rfl (by decide) rfl (fun ls hl => ?_)
          refine lv_goto (tgt := 4) hx hb dX8_bundles_44 (by decide) ?_
          exact ih4 asked (x1 ||| (0 : Int32)) (x2 + 1) h _ _ hP hD hS ls (lv_sub hl [2, 1, 0] rfl)
        · have h := h.2 hc
          refine lv_iconst (v := (1)) hx hb dX8_bundles_28 (by decide) ?_
          refine lv_aload_n hx hb dX8_bundles_29 rfl (lv_at hl 0 rfl) ?_
          refine lv_iload_n hx hb dX8_bundles_30 rfl (lv_at hl 2 rfl) ?_
          refine rd_calli (va_runV (As := [.int x2]) (rest := [.int (1 : Int32), .int x1]) ⟨hx, hb, hml, hown, hts⟩ (c_X8_rootOf l D ca a rowSizes rows textSizes texts now keeps kept asked upper lower finding findings read at_ costs ways reach x2 _ h) (cwV 1 hts gX8_bundles_X8_rootOf rfl rfl rfl (by decide +kernel) ⟨Nat.le_of_ble_eq_true rfl, Nat.le_of_ble_eq_true rfl⟩) (PcX.preV (q := (RX8, TX8, 17)) (ci := 7) (q0 := 0) hK hP rfl rfl hP) rfl rfl hl.1 rfl (lv_room (Nat.le_of_ble_eq_true rfl)) dX8_bundles_31 ⟨Nat.le_of_ble_eq_true rfl, Nat.le_of_ble_eq_true rfl⟩) (fun r5 h => ?_)
          try dsimp only at h
          refine lv_ishl hx hb dX8_bundles_34 ?_
          refine lv_goto (tgt := 39) hx hb dX8_bundles_35 (by decide) ?_
          refine lv_ior hx hb dX8_bundles_39 ?_
          refine lv_istore_n (lv' := [(1, .int (x1 ||| ((1 : Int32) <<< (r5 &&& 31)))), (0, .ref (a 0)), (2, .int x2)]) hx hb dX8_bundles_40 rfl hl (by decide) rfl (fun ls hl => ?_)
          refine lv_iinc (v := x2 + 1) (lv' := [(2, .int (x2 + 1)), (1, .int (x1 ||| ((1 : Int32) <<< (r5 &&& 31)))), (0, .ref (a 0))]) hx hb dX8_bundles_41 hl (k := 2) rfl rfl (by decide) rfl (fun ls hl => ?_)
          refine lv_goto (tgt := 4) hx hb dX8_bundles_44 (by decide) ?_
          exact ih4 asked (x1 ||| ((1 : Int32) <<< (r5 &&& 31))) (x2 + 1) h _ _ hP hD hS ls (lv_sub hl [2, 1, 0] rfl)
  unfold wp_X8_bundles at h
  refine lv_iconst (v := (0)) hx hb dX8_bundles_0 (by decide) ?_
  refine lv_istore_n (lv' := [(1, .int (0 : Int32)), (0, .ref (a 0))]) hx hb dX8_bundles_1 rfl hl (by decide) rfl (fun ls hl => ?_)
  refine lv_iconst (v := (0)) hx hb dX8_bundles_2 (by decide) ?_
  refine lv_istore_n (lv' := [(2, .int (0 : Int32)), (1, .int (0 : Int32)), (0, .ref (a 0))]) hx hb dX8_bundles_3 rfl hl (by decide) rfl (fun ls hl => ?_)
  obtain ⟨zn, h⟩ := h
  exact w_4  zn asked (0 : Int32) (0 : Int32) h _ _ hP hD hS ls (lv_sub hl [2, 1, 0] rfl)

-- IronedQuarrelsModel.longest(I)I
def wb_X8_longest_87 (now : Nat → Int32) (r : Int32) (post : Int32 → (Nat → Int32) → (Nat → Int32) → (Int32) → (Nat → Int32) → Prop) (K87 : (Nat → Int32) → (Nat → Int32) → (Int32) → (Nat → Int32) → (Int32) → (Int32) → (Int32) → Prop) (rowSizes : Nat → Int32) (rows : Nat → Int32) (finding : Int32) (findings : Nat → Int32) (x3 : Int32) (x4 : Int32) (x5 : Int32) : Prop :=
  (x5 < 0 → (post x4 rowSizes rows finding findings)) ∧ (¬ x5 < 0 → (vp_in (((40 : Int32) * r) + x5) 240 ∧ vp_in ((63 : Int32) + x3) 115 ∧ K87 rowSizes (upd rows ((((40 : Int32) * r) + x5).toNatClampNeg) x3) finding findings (now ((63 : Int32) + x3).toNatClampNeg) x4 (x5 + (-1))))
def wl_X8_longest_87 (now : Nat → Int32) (r : Int32) (post : Int32 → (Nat → Int32) → (Nat → Int32) → (Int32) → (Nat → Int32) → Prop) : Nat → (Nat → Int32) → (Nat → Int32) → (Int32) → (Nat → Int32) → (Int32) → (Int32) → (Int32) → Prop
  | 0 => fun _ _ _ _ _ _ _ => False
  | zn + 1 => wb_X8_longest_87 now r post (wl_X8_longest_87 now r post zn)
def wb_X8_longest_53 (K17 : (Nat → Int32) → (Nat → Int32) → (Int32) → (Nat → Int32) → (Int32) → (Int32) → (Int32) → Prop) (rowSizes : Nat → Int32) (rows : Nat → Int32) (finding : Int32) (findings : Nat → Int32) (x2 : Int32) (x4 : Int32) (x5 : Int32) (s0 : Int32) : Prop :=
  (x5 ≤ x2 → (K17 rowSizes rows finding findings x2 s0 (x4 + 1))) ∧ (¬ x5 ≤ x2 → (K17 rowSizes rows finding findings x5 s0 (x4 + 1)))
def wb_X8_longest_17 (now : Nat → Int32) (r : Int32) (post : Int32 → (Nat → Int32) → (Nat → Int32) → (Int32) → (Nat → Int32) → Prop) (K17 : (Nat → Int32) → (Nat → Int32) → (Int32) → (Nat → Int32) → (Int32) → (Int32) → (Int32) → Prop) (rowSizes : Nat → Int32) (rows : Nat → Int32) (finding : Int32) (findings : Nat → Int32) (x2 : Int32) (x3 : Int32) (x4 : Int32) : Prop :=
  ((now 0) ≤ x4 → (wp_X8_row rowSizes rows finding findings r x2 (fun r2 rowSizes_3 rows_4 finding_5 findings_6 => ∃ zn, wl_X8_longest_87 now r post zn rowSizes_3 rows_4 finding_5 findings_6 x3 r2 (r2 - (1 : Int32))))) ∧ (¬ (now 0) ≤ x4 → (wp_X8_leansOf now x4 (fun r7 => wp_X8_bits r7 (fun r8 => (((1 : Int32) + r8) ≤ x2 → (wb_X8_longest_53 K17 rowSizes rows finding findings x2 x4 ((1 : Int32) + r8) x3)) ∧ (¬ ((1 : Int32) + r8) ≤ x2 → (wb_X8_longest_53 K17 rowSizes rows finding findings x2 x4 ((1 : Int32) + r8) x4))))))
def wl_X8_longest_17 (now : Nat → Int32) (r : Int32) (post : Int32 → (Nat → Int32) → (Nat → Int32) → (Int32) → (Nat → Int32) → Prop) : Nat → (Nat → Int32) → (Nat → Int32) → (Int32) → (Nat → Int32) → (Int32) → (Int32) → (Int32) → Prop
  | 0 => fun _ _ _ _ _ _ _ => False
  | zn + 1 => wb_X8_longest_17 now r post (wl_X8_longest_17 now r post zn)
def wp_X8_longest (rowSizes : Nat → Int32) (rows : Nat → Int32) (now : Nat → Int32) (finding : Int32) (findings : Nat → Int32) (r : Int32) (post : Int32 → (Nat → Int32) → (Nat → Int32) → (Int32) → (Nat → Int32) → Prop) : Prop :=
  wp_X8_isRow r (fun r1 => (¬ r1 = 0 → (∃ zn, wl_X8_longest_17 now r post zn rowSizes rows finding findings (0 : Int32) (-9 : Int32) (0 : Int32))) ∧ (r1 = 0 → (post (-1 : Int32) rowSizes rows finding findings)))
def rm_X8_longest : Room := { frames := 3, cells := 0, slots := 0, locals := 68 }
theorem k_X8_longest_1 : Cond.fieldLink RX8 22 "IronedQuarrelsModel" "now" "[I" ∈ wsX8_longest := List.mem_of_getElem? (i := 1) (by decide +kernel)
theorem k_X8_longest_2 : Cond.fieldLink RX8 13 "IronedQuarrelsModel" "rows" "[I" ∈ wsX8_longest := List.mem_of_getElem? (i := 2) (by decide +kernel)
theorem hi_X8_longest_X8 : ∀ w ∈ wsX80, w ∈ wsX8_longest := fun w h => List.mem_cons_of_mem _ (List.mem_append_right _ h)
set_option maxHeartbeats 4000000 in
set_option maxRecDepth 100000 in
theorem c_X8_longest (l : Launch) (D : va_G) (ca : Nat → ClassId) (a : Nat → Nat) (rowSizes : Nat → Int32) (rows : Nat → Int32) (textSizes : Nat → Int32) (texts : Nat → Int32) (now : Nat → Int32) (keeps : Nat → Int32) (kept : Nat → Int32) (asked : Int32) (upper : Int64) (lower : Int64) (finding : Int32) (findings : Nat → Int32) (read : Nat → Int32) (at_ : Int32) (costs : Nat → Int32) (ways : Nat → Int64) (reach : Nat → Int32) (r : Int32) (post : Int32 → (Nat → Int32) → (Nat → Int32) → (Int32) → (Nat → Int32) → Prop) (hd : va_D (fun _ => True) (W_X8 ca a rowSizes rows textSizes texts now keeps kept asked upper lower finding findings read at_ costs ways reach)) (h : wp_X8_longest rowSizes rows now finding findings r post) : Met l yX8_longest wsX8_longest rm_X8_longest (PcX D ca [.ref (a 0), .int r] (W_X8 ca a rowSizes rows textSizes texts now keeps kept asked upper lower finding findings read at_ costs ways reach)) (wrI (S := (Nat → Int32) × (Nat → Int32) × (Int32) × (Nat → Int32)) D (W_X8 ca a rowSizes rows textSizes texts now keeps kept asked upper lower finding findings read at_ costs ways reach) (fun zu => W_X8 ca a zu.1 zu.2.1 textSizes texts now keeps kept asked upper lower zu.2.2.1 zu.2.2.2 read at_ costs ways reach) (fun zr zu => post zr zu.1 zu.2.1 zu.2.2.1 zu.2.2.2)) 0 0 (adr (W_X8 ca a rowSizes rows textSizes texts now keeps kept asked upper lower finding findings read at_ costs ways reach)) := by
  refine Met.ofW (cc := cX8_longest) (maxL := 6) (ret := (some .int)) (by decide) rfl ?_
  intro zp ze zs zm za zb zt zc z1 B hml hv
  obtain ⟨rfl, hP, hK⟩ := hv
  have hx := B.exec
  have hb := B.bytes
  have hr := B.returns
  have hts := atoms_spec (ws := wsX8_longest) B.pre
  have hown : zs.vm.findClass RX8 = some zm.cls := findClass_of_methodNamed B.named
  have hlocks := B.notSynchronized
  have hD : va_D (adr (W_X8 ca a rowSizes rows textSizes texts now keeps kept asked upper lower finding findings read at_ costs ways reach)) (W_X8 ca a rowSizes rows textSizes texts now keeps kept asked upper lower finding findings read at_ costs ways reach) := hd.adr
  have hS : va_S (adr (W_X8 ca a rowSizes rows textSizes texts now keeps kept asked upper lower finding findings read at_ costs ways reach)) zs.heap zs.heap [] := va_S.rf
  have hl := lv_entry ([.ref (a 0), .int r]) (n := 6) (Nat.le_of_ble_eq_true rfl)
  rw [lg_entry_eq]
  generalize (lg_sl ([.ref (a 0), .int r]) ++ List.replicate (6 - (lg_sl ([.ref (a 0), .int r])).length) Slot.unset).toArray = ls at hl ⊢
  replace hl : lv_has ls 6 [(0, .ref (a 0)), (1, .int r)] := hl
  show W zp l ze rm_X8_longest zs zm ([.ref (a 0), .int r] : List Value).toArray zb zt zc zs.heap [] 0 0 (MQ zb (wrI (S := (Nat → Int32) × (Nat → Int32) × (Int32) × (Nat → Int32)) D (W_X8 ca a rowSizes rows textSizes texts now keeps kept asked upper lower finding findings read at_ costs ways reach) (fun zu => W_X8 ca a zu.1 zu.2.1 textSizes texts now keeps kept asked upper lower zu.2.2.1 zu.2.2.2 read at_ costs ways reach) (fun zr zu => post zr zu.1 zu.2.1 zu.2.2.1 zu.2.2.2)) ([.ref (a 0), .int r] : List Value).toArray zs 0 0 (adr (W_X8 ca a rowSizes rows textSizes texts now keeps kept asked upper lower finding findings read at_ costs ways reach))) (F0 zm 0 ls [])
  have w_87 : ∀ (zn : Nat) (rowSizes : Nat → Int32) (rows : Nat → Int32) (finding : Int32) (findings : Nat → Int32) (x3 : Int32) (x4 : Int32) (x5 : Int32), wl_X8_longest_87 now r post zn rowSizes rows finding findings x3 x4 x5 → ∀ (H : Heap) (locs : List Loc), va_P D vwCl (W_X8 ca a rowSizes rows textSizes texts now keeps kept asked upper lower finding findings read at_ costs ways reach) H → va_D (adr (W_X8 ca a rowSizes rows textSizes texts now keeps kept asked upper lower finding findings read at_ costs ways reach)) (W_X8 ca a rowSizes rows textSizes texts now keeps kept asked upper lower finding findings read at_ costs ways reach) → va_S (adr (W_X8 ca a rowSizes rows textSizes texts now keeps kept asked upper lower finding findings read at_ costs ways reach)) zs.heap H locs → ∀ ls : Array Slot, lv_has ls 6 [(0, .ref (a 0)), (1, .int r), (3, .int x3), (4, .int x4), (5, .int x5)] → W zp l ze rm_X8_longest zs zm ([.ref (a 0), .int r] : List Value).toArray zb zt zc H locs 0 0 (MQ zb (wrI (S := (Nat → Int32) × (Nat → Int32) × (Int32) × (Nat → Int32)) D (W_X8 ca a rowSizes rows textSizes texts now keeps kept asked upper lower finding findings read at_ costs ways reach) (fun zu => W_X8 ca a zu.1 zu.2.1 textSizes texts now keeps kept asked upper lower zu.2.2.1 zu.2.2.2 read at_ costs ways reach) (fun zr zu => post zr zu.1 zu.2.1 zu.2.2.1 zu.2.2.2)) ([.ref (a 0), .int r] : List Value).toArray zs 0 0 (adr (W_X8 ca a rowSizes rows textSizes texts now keeps kept asked upper lower finding findings read at_ costs ways reach))) (F0 zm 87 ls []) := by
    intro zn
    induction zn with
    | zero => intro rowSizes rows finding findings x3 x4 x5 h; exact h.elim
    | succ zn ih87 =>
      intro rowSizes rows finding findings x3 x4 x5 h H locs hP hD hS ls hl
      replace h : wb_X8_longest_87 now r post (wl_X8_longest_87 now r post zn) rowSizes rows finding findings x3 x4 x5 := h
      unfold wb_X8_longest_87 at h
      refine lv_iload hx hb dX8_longest_87 (lv_at hl 4 rfl) ?_
      refine lv_if_lt (tgt := 121) hx hb dX8_longest_89 (by decide) (fun hc => ?_) (fun hc => ?_)
      · have h := h.1 hc
        refine lv_iload hx hb dX8_longest_121 (lv_at hl 3 rfl) ?_
        exact W.iret (v := x4) hx hb hr (fun zt ht hW => ⟨⟨x4, (rowSizes, rows, finding, findings), rfl, h, by rw [ht]; exact hP⟩, hS.F ht⟩) hS.2.2 dX8_longest_123
      · have h := h.2 hc
        refine lv_aload_n hx hb dX8_longest_92 rfl (lv_at hl 0 rfl) ?_
        refine va_get (D := D) (ci := 7) (v := .ref (a 2)) (C := RX8) (T := TX8) (N := 17) hx hb hts hi_X8_longest_X8 hown hK.1 hP 0 rfl rfl 1 (by decide) (hts _ k_X8_longest_2) (fun _ h9 => h9) rfl dX8_longest_93 ?_
        refine lv_bipush (v := (40)) hx hb dX8_longest_96 (by decide) ?_
        refine lv_iload_n hx hb dX8_longest_98 rfl (lv_at hl 1 rfl) ?_
        refine lv_imul hx hb dX8_longest_99 ?_
        refine lv_iload hx hb dX8_longest_100 (lv_at hl 4 rfl) ?_
        refine lv_iadd hx hb dX8_longest_102 ?_
        refine lv_iload_n hx hb dX8_longest_103 rfl (lv_at hl 2 rfl) ?_
        obtain ⟨hi, h⟩ := h
        refine x_iast (ws' := W_X8 ca a rowSizes (upd rows ((((40 : Int32) * r) + x5).toNatClampNeg) x3) textSizes texts now keeps kept asked upper lower finding findings read at_ costs ways reach) hx hb hK hP hD hS 2 rfl hi (k := ((((40 : Int32) * r) + x5).toNatClampNeg)) rfl rfl dX8_longest_104 (fun H locs hP hD hS => ?_)
        refine lv_aload_n hx hb dX8_longest_105 rfl (lv_at hl 0 rfl) ?_
        refine va_get (D := D) (ci := 7) (v := .ref (a 5)) (C := RX8) (T := TX8) (N := 17) hx hb hts hi_X8_longest_X8 hown hK.1 hP 0 rfl rfl 4 (by decide) (hts _ k_X8_longest_1) (fun _ h9 => h9) rfl dX8_longest_106 ?_
        refine lv_bipush (v := (63)) hx hb dX8_longest_109 (by decide) ?_
        refine lv_iload_n hx hb dX8_longest_111 rfl (lv_at hl 2 rfl) ?_
        refine lv_iadd hx hb dX8_longest_112 ?_
        obtain ⟨hi, h⟩ := h
        refine x_iald (v := now ((63 : Int32) + x3).toNatClampNeg) hx hb hK hP 5 rfl hi rfl dX8_longest_113 ?_
        refine lv_istore_n (lv' := [(3, .int (now ((63 : Int32) + x3).toNatClampNeg)), (0, .ref (a 0)), (1, .int r), (4, .int x4), (5, .int x5)]) hx hb dX8_longest_114 rfl hl (by decide) rfl (fun ls hl => ?_)
        refine lv_iinc (v := x5 + (-1)) (lv' := [(5, .int (x5 + (-1))), (3, .int (now ((63 : Int32) + x3).toNatClampNeg)), (0, .ref (a 0)), (1, .int r), (4, .int x4)]) hx hb dX8_longest_115 hl (k := 4) rfl rfl (by decide) rfl (fun ls hl => ?_)
        refine lv_goto (tgt := 87) hx hb dX8_longest_118 (by decide) ?_
        exact ih87 rowSizes (upd rows ((((40 : Int32) * r) + x5).toNatClampNeg) x3) finding findings (now ((63 : Int32) + x3).toNatClampNeg) x4 (x5 + (-1)) h _ _ hP hD hS ls (lv_sub hl [2, 3, 1, 4, 0] rfl)
  have w_53 : ∀ (K17 : (Nat → Int32) → (Nat → Int32) → (Int32) → (Nat → Int32) → (Int32) → (Int32) → (Int32) → Prop) (ih17 : ∀ (rowSizes : Nat → Int32) (rows : Nat → Int32) (finding : Int32) (findings : Nat → Int32) (x2 : Int32) (x3 : Int32) (x4 : Int32), K17 rowSizes rows finding findings x2 x3 x4 → ∀ (H : Heap) (locs : List Loc), va_P D vwCl (W_X8 ca a rowSizes rows textSizes texts now keeps kept asked upper lower finding findings read at_ costs ways reach) H → va_D (adr (W_X8 ca a rowSizes rows textSizes texts now keeps kept asked upper lower finding findings read at_ costs ways reach)) (W_X8 ca a rowSizes rows textSizes texts now keeps kept asked upper lower finding findings read at_ costs ways reach) → va_S (adr (W_X8 ca a rowSizes rows textSizes texts now keeps kept asked upper lower finding findings read at_ costs ways reach)) zs.heap H locs → ∀ ls : Array Slot, lv_has ls 6 [(0, .ref (a 0)), (1, .int r), (2, .int x2), (3, .int x3), (4, .int x4)] → W zp l ze rm_X8_longest zs zm ([.ref (a 0), .int r] : List Value).toArray zb zt zc H locs 0 0 (MQ zb (wrI (S := (Nat → Int32) × (Nat → Int32) × (Int32) × (Nat → Int32)) D (W_X8 ca a rowSizes rows textSizes texts now keeps kept asked upper lower finding findings read at_ costs ways reach) (fun zu => W_X8 ca a zu.1 zu.2.1 textSizes texts now keeps kept asked upper lower zu.2.2.1 zu.2.2.2 read at_ costs ways reach) (fun zr zu => post zr zu.1 zu.2.1 zu.2.2.1 zu.2.2.2)) ([.ref (a 0), .int r] : List Value).toArray zs 0 0 (adr (W_X8 ca a rowSizes rows textSizes texts now keeps kept asked upper lower finding findings read at_ costs ways reach))) (F0 zm 17 ls [])) (rowSizes : Nat → Int32) (rows : Nat → Int32) (finding : Int32) (findings : Nat → Int32) (x2 : Int32) (x4 : Int32) (x5 : Int32) (s0 : Int32), wb_X8_longest_53 K17 rowSizes rows finding findings x2 x4 x5 s0 → ∀ (H : Heap) (locs : List Loc), va_P D vwCl (W_X8 ca a rowSizes rows textSizes texts now keeps kept asked upper lower finding findings read at_ costs ways reach) H → va_D (adr (W_X8 ca a rowSizes rows textSizes texts now keeps kept asked upper lower finding findings read at_ costs ways reach)) (W_X8 ca a rowSizes rows textSizes texts now keeps kept asked upper lower finding findings read at_ costs ways reach) → va_S (adr (W_X8 ca a rowSizes rows textSizes texts now keeps kept asked upper lower finding findings read at_ costs ways reach)) zs.heap H locs → ∀ ls : Array Slot, lv_has ls 6 [(0, .ref (a 0)), (1, .int r), (2, .int x2), (4, .int x4), (5, .int x5)] → W zp l ze rm_X8_longest zs zm ([.ref (a 0), .int r] : List Value).toArray zb zt zc H locs 0 0 (MQ zb (wrI (S := (Nat → Int32) × (Nat → Int32) × (Int32) × (Nat → Int32)) D (W_X8 ca a rowSizes rows textSizes texts now keeps kept asked upper lower finding findings read at_ costs ways reach) (fun zu => W_X8 ca a zu.1 zu.2.1 textSizes texts now keeps kept asked upper lower zu.2.2.1 zu.2.2.2 read at_ costs ways reach) (fun zr zu => post zr zu.1 zu.2.1 zu.2.2.1 zu.2.2.2)) ([.ref (a 0), .int r] : List Value).toArray zs 0 0 (adr (W_X8 ca a rowSizes rows textSizes texts now keeps kept asked upper lower finding findings read at_ costs ways reach))) (F0 zm 53 ls [.int s0]) := by
    intro K17 ih17 rowSizes rows finding findings x2 x4 x5 s0 h H locs hP hD hS ls hl
    unfold wb_X8_longest_53 at h
    refine lv_istore_n (lv' := [(3, .int s0), (0, .ref (a 0)), (1, .int r), (2, .int x2), (4, .int x4), (5, .int x5)]) hx hb dX8_longest_53 rfl hl (by decide) rfl (fun ls hl => ?_)
    refine lv_iload hx hb dX8_longest_54 (lv_at hl 5 rfl) ?_
    refine lv_iload_n hx hb dX8_longest_56 rfl (lv_at hl 3 rfl) ?_
    refine lv_icmp_le (tgt := 65) hx hb dX8_longest_57 (by decide) (fun hc => ?_) (fun hc => ?_)
    · have h := h.1 hc
      refine lv_iload_n hx hb dX8_longest_65 rfl (lv_at hl 3 rfl) ?_
      refine lv_istore_n (lv' := [(2, .int x2), (3, .int s0), (0, .ref (a 0)), (1, .int r), (4, .int x4), (5, .int x5)]) hx hb dX8_longest_66 rfl hl (by decide) rfl (fun ls hl => ?_)
      refine lv_iinc (v := x4 + 1) (lv' := [(4, .int (x4 + 1)), (2, .int x2), (3, .int s0), (0, .ref (a 0)), (1, .int r), (5, .int x5)]) hx hb dX8_longest_67 hl (k := 4) rfl rfl (by decide) rfl (fun ls hl => ?_)
      refine lv_goto (tgt := 17) hx hb dX8_longest_70 (by decide) ?_
      exact ih17 rowSizes rows finding findings x2 s0 (x4 + 1) h _ _ hP hD hS ls (lv_sub hl [3, 4, 1, 2, 0] rfl)
    · have h := h.2 hc
      refine lv_iload hx hb dX8_longest_60 (lv_at hl 5 rfl) ?_
      refine lv_goto (tgt := 66) hx hb dX8_longest_62 (by decide) ?_
      refine lv_istore_n (lv' := [(2, .int x5), (3, .int s0), (0, .ref (a 0)), (1, .int r), (4, .int x4), (5, .int x5)]) hx hb dX8_longest_66 rfl hl (by decide) rfl (fun ls hl => ?_)
      refine lv_iinc (v := x4 + 1) (lv' := [(4, .int (x4 + 1)), (2, .int x5), (3, .int s0), (0, .ref (a 0)), (1, .int r), (5, .int x5)]) hx hb dX8_longest_67 hl (k := 4) rfl rfl (by decide) rfl (fun ls hl => ?_)
      refine lv_goto (tgt := 17) hx hb dX8_longest_70 (by decide) ?_
      exact ih17 rowSizes rows finding findings x5 s0 (x4 + 1) h _ _ hP hD hS ls (lv_sub hl [3, 4, 1, 2, 0] rfl)
  have w_17 : ∀ (zn : Nat) (rowSizes : Nat → Int32) (rows : Nat → Int32) (finding : Int32) (findings : Nat → Int32) (x2 : Int32) (x3 : Int32) (x4 : Int32), wl_X8_longest_17 now r post zn rowSizes rows finding findings x2 x3 x4 → ∀ (H : Heap) (locs : List Loc), va_P D vwCl (W_X8 ca a rowSizes rows textSizes texts now keeps kept asked upper lower finding findings read at_ costs ways reach) H → va_D (adr (W_X8 ca a rowSizes rows textSizes texts now keeps kept asked upper lower finding findings read at_ costs ways reach)) (W_X8 ca a rowSizes rows textSizes texts now keeps kept asked upper lower finding findings read at_ costs ways reach) → va_S (adr (W_X8 ca a rowSizes rows textSizes texts now keeps kept asked upper lower finding findings read at_ costs ways reach)) zs.heap H locs → ∀ ls : Array Slot, lv_has ls 6 [(0, .ref (a 0)), (1, .int r), (2, .int x2), (3, .int x3), (4, .int x4)] → W zp l ze rm_X8_longest zs zm ([.ref (a 0), .int r] : List Value).toArray zb zt zc H locs 0 0 (MQ zb (wrI (S := (Nat → Int32) × (Nat → Int32) × (Int32) × (Nat → Int32)) D (W_X8 ca a rowSizes rows textSizes texts now keeps kept asked upper lower finding findings read at_ costs ways reach) (fun zu => W_X8 ca a zu.1 zu.2.1 textSizes texts now keeps kept asked upper lower zu.2.2.1 zu.2.2.2 read at_ costs ways reach) (fun zr zu => post zr zu.1 zu.2.1 zu.2.2.1 zu.2.2.2)) ([.ref (a 0), .int r] : List Value).toArray zs 0 0 (adr (W_X8 ca a rowSizes rows textSizes texts now keeps kept asked upper lower finding findings read at_ costs ways reach))) (F0 zm 17 ls []) := by
    intro zn
    induction zn with
    | zero => intro rowSizes rows finding findings x2 x3 x4 h; exact h.elim
    | succ zn ih17 =>
      intro rowSizes rows finding findings x2 x3 x4 h H locs hP hD hS ls hl
      replace h : wb_X8_longest_17 now r post (wl_X8_longest_17 now r post zn) rowSizes rows finding findings x2 x3 x4 := h
      unfold wb_X8_longest_17 at h
      refine lv_iload hx hb dX8_longest_17 (lv_at hl 4 rfl) ?_
      refine lv_aload_n hx hb dX8_longest_19 rfl (lv_at hl 0 rfl) ?_
      refine va_get (D := D) (ci := 7) (v := .ref (a 5)) (C := RX8) (T := TX8) (N := 17) hx hb hts hi_X8_longest_X8 hown hK.1 hP 0 rfl rfl 4 (by decide) (hts _ k_X8_longest_1) (fun _ h9 => h9) rfl dX8_longest_20 ?_
      refine lv_iconst (v := (0)) hx hb dX8_longest_23 (by decide) ?_
      refine x_iald (v := now 0) hx hb hK hP 5 rfl (vin_lit (by decide)) rfl dX8_longest_24 ?_
      refine lv_icmp_ge (tgt := 73) hx hb dX8_longest_25 (by decide) (fun hc => ?_) (fun hc => ?_)
      · have h := h.1 hc
        refine lv_aload_n hx hb dX8_longest_73 rfl (lv_at hl 0 rfl) ?_
        refine lv_iload_n hx hb dX8_longest_74 rfl (lv_at hl 1 rfl) ?_
        refine lv_iload_n hx hb dX8_longest_75 rfl (lv_at hl 2 rfl) ?_
        refine wr_calli (ws1 := fun zu => W_X8 ca a zu.1 zu.2.1 textSizes texts now keeps kept asked upper lower zu.2.2.1 zu.2.2.2 read at_ costs ways reach) (wr := ([] : List Nat).filterMap (fun zi => (W_X8 ca a rowSizes rows textSizes texts now keeps kept asked upper lower finding findings read at_ costs ways reach : va_W)[zi]?)) (n := 13) (va_runV (As := [.int r, .int x2]) (rest := []) ⟨hx, hb, hml, hown, hts⟩ (c_X8_row l D ca a rowSizes rows textSizes texts now keeps kept asked upper lower finding findings read at_ costs ways reach r x2 _ (hD.subM [0, 1, 2, 3, 4, 5, 6, 7, 8, 9, 10, 11, 12] (by decide) rfl) h) (cwV 2 hts gX8_longest_X8_row rfl rfl rfl (by decide +kernel) ⟨Nat.le_of_ble_eq_true rfl, Nat.le_of_ble_eq_true rfl⟩) (PcX.preV (q := (RX8, TX8, 17)) (ci := 7) (q0 := 0) hK hP rfl rfl hP) rfl rfl hl.1 rfl (lv_room (Nat.le_of_ble_eq_true rfl)) dX8_longest_76 ⟨Nat.le_of_ble_eq_true rfl, Nat.le_of_ble_eq_true rfl⟩) hP hD hS [0, 1, 2, 3, 4, 5, 6, 7, 8, 9, 10, 11, 12] [] rfl (fun _ => rfl) rfl (fun _ => rfl) (fun _ => rfl) (fun _ => rfl) (by decide +kernel) (by decide +kernel) (fun r2 zu H locs h hP hD hS => ?_)
        obtain ⟨rowSizes_3, rows_4, finding_5, findings_6⟩ := zu
        have hP : va_P D vwCl (W_X8 ca a rowSizes_3 rows_4 textSizes texts now keeps kept asked upper lower finding_5 findings_6 read at_ costs ways reach) H := hP
        have hD : va_D _ (W_X8 ca a rowSizes_3 rows_4 textSizes texts now keeps kept asked upper lower finding_5 findings_6 read at_ costs ways reach) := hD
        try dsimp only at h
        refine lv_istore (lv' := [(4, .int r2), (0, .ref (a 0)), (1, .int r), (2, .int x2), (3, .int x3)]) hx hb dX8_longest_79 hl (by decide) rfl (fun ls hl => ?_)
        refine lv_iload hx hb dX8_longest_81 (lv_at hl 0 rfl) ?_
        refine lv_iconst (v := (1)) hx hb dX8_longest_83 (by decide) ?_
        refine lv_isub hx hb dX8_longest_84 ?_
        refine lv_istore (lv' := [(5, .int (r2 - (1 : Int32))), (4, .int r2), (0, .ref (a 0)), (1, .int r), (2, .int x2), (3, .int x3)]) hx hb dX8_longest_85 hl (by decide) rfl (fun ls hl => ?_)
        obtain ⟨zn, h⟩ := h
        exact w_87  zn rowSizes_3 rows_4 finding_5 findings_6 x3 r2 (r2 - (1 : Int32)) h _ _ hP hD hS ls (lv_sub hl [2, 3, 5, 1, 0] rfl)
      · have h := h.2 hc
        refine lv_iconst (v := (1)) hx hb dX8_longest_28 (by decide) ?_
        refine lv_aload_n hx hb dX8_longest_29 rfl (lv_at hl 0 rfl) ?_
        refine lv_iload hx hb dX8_longest_30 (lv_at hl 4 rfl) ?_
        refine rd_calli (va_runV (As := [.int x4]) (rest := [.int (1 : Int32)]) ⟨hx, hb, hml, hown, hts⟩ (c_X8_leansOf l D ca a rowSizes rows textSizes texts now keeps kept asked upper lower finding findings read at_ costs ways reach x4 _ h) (cwV 1 hts gX8_longest_X8_leansOf rfl rfl rfl (by decide +kernel) ⟨Nat.le_of_ble_eq_true rfl, Nat.le_of_ble_eq_true rfl⟩) (PcX.preV (q := (RX8, TX8, 17)) (ci := 7) (q0 := 0) hK hP rfl rfl hP) rfl rfl hl.1 rfl (lv_room (Nat.le_of_ble_eq_true rfl)) dX8_longest_32 ⟨Nat.le_of_ble_eq_true rfl, Nat.le_of_ble_eq_true rfl⟩) (fun r7 h => ?_)
        try dsimp only at h
        refine rd_calli (va_runS (As := [.int r7]) (rest := [.int (1 : Int32)]) ⟨hx, hb, hml, hown, hts⟩ (c_X8_bits l D ca   r7 _ h) (va_cwS 1 hts gX8_longest_X8_bits rfl rfl rfl (by decide +kernel) ⟨Nat.le_of_ble_eq_true rfl, Nat.le_of_ble_eq_true rfl⟩) (PcX.preS hK (fun zk zq zh => by simp at zh)) rfl rfl hl.1 rfl (lv_room (Nat.le_of_ble_eq_true rfl)) dX8_longest_35 ⟨Nat.le_of_ble_eq_true rfl, Nat.le_of_ble_eq_true rfl⟩) (fun r8 h => ?_)
        try dsimp only at h
        refine lv_iadd hx hb dX8_longest_38 ?_
        refine lv_istore (lv' := [(5, .int ((1 : Int32) + r8)), (0, .ref (a 0)), (1, .int r), (2, .int x2), (3, .int x3), (4, .int x4)]) hx hb dX8_longest_39 hl (by decide) rfl (fun ls hl => ?_)
        refine lv_iload hx hb dX8_longest_41 (lv_at hl 0 rfl) ?_
        refine lv_iload_n hx hb dX8_longest_43 rfl (lv_at hl 3 rfl) ?_
        refine lv_icmp_le (tgt := 52) hx hb dX8_longest_44 (by decide) (fun hc => ?_) (fun hc => ?_)
        · have h := h.1 hc
          refine lv_iload_n hx hb dX8_longest_52 rfl (lv_at hl 4 rfl) ?_
          exact w_53 _ ih17 rowSizes rows finding findings x2 x4 ((1 : Int32) + r8) x3 h _ _ hP hD hS ls (lv_sub hl [1, 2, 3, 5, 0] rfl)
        · have h := h.2 hc
          refine lv_iload hx hb dX8_longest_47 (lv_at hl 5 rfl) ?_
          refine lv_goto (tgt := 53) hx hb dX8_longest_49 (by decide) ?_
          exact w_53 _ ih17 rowSizes rows finding findings x2 x4 ((1 : Int32) + r8) x4 h _ _ hP hD hS ls (lv_sub hl [1, 2, 3, 5, 0] rfl)
  unfold wp_X8_longest at h
  refine lv_iload_n hx hb dX8_longest_0 rfl (lv_at hl 1 rfl) ?_
  refine rd_callz (va_runS (As := [.int r]) (rest := []) ⟨hx, hb, hml, hown, hts⟩ (c_X8_isRow l D ca   r _ h) (va_cwS 1 hts gX8_longest_X8_isRow rfl rfl rfl (by decide +kernel) ⟨Nat.le_of_ble_eq_true rfl, Nat.le_of_ble_eq_true rfl⟩) (PcX.preS hK (fun zk zq zh => by simp at zh)) rfl rfl hl.1 rfl (lv_room (Nat.le_of_ble_eq_true rfl)) dX8_longest_1 ⟨Nat.le_of_ble_eq_true rfl, Nat.le_of_ble_eq_true rfl⟩) (fun r1 h hz_r1 => ?_)
  try dsimp only at h
  refine lv_if_ne (tgt := 9) hx hb dX8_longest_4 (by decide) (fun hc => ?_) (fun hc => ?_)
  · have h := h.1 hc
    refine lv_iconst (v := (0)) hx hb dX8_longest_9 (by decide) ?_
    refine lv_istore_n (lv' := [(2, .int (0 : Int32)), (0, .ref (a 0)), (1, .int r)]) hx hb dX8_longest_10 rfl hl (by decide) rfl (fun ls hl => ?_)
    refine lv_bipush (v := (-9)) hx hb dX8_longest_11 (by decide) ?_
    refine lv_istore_n (lv' := [(3, .int (-9 : Int32)), (2, .int (0 : Int32)), (0, .ref (a 0)), (1, .int r)]) hx hb dX8_longest_13 rfl hl (by decide) rfl (fun ls hl => ?_)
    refine lv_iconst (v := (0)) hx hb dX8_longest_14 (by decide) ?_
    refine lv_istore (lv' := [(4, .int (0 : Int32)), (3, .int (-9 : Int32)), (2, .int (0 : Int32)), (0, .ref (a 0)), (1, .int r)]) hx hb dX8_longest_15 hl (by decide) rfl (fun ls hl => ?_)
    obtain ⟨zn, h⟩ := h
    exact w_17  zn rowSizes rows finding findings (0 : Int32) (-9 : Int32) (0 : Int32) h _ _ hP hD hS ls (lv_sub hl [3, 4, 2, 1, 0] rfl)
  · have h := h.2 hc
    refine lv_iconst (v := (-1)) hx hb dX8_longest_7 (by decide) ?_
    exact W.iret (v := (-1 : Int32)) hx hb hr (fun zt ht hW => ⟨⟨(-1 : Int32), (rowSizes, rows, finding, findings), rfl, h, by rw [ht]; exact hP⟩, hS.F ht⟩) hS.2.2 dX8_longest_8
