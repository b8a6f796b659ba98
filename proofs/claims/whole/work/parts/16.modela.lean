-- IronedQuarrelsModel.in(JJJ)Z
def wp_X8_in (v : Int64) (least : Int64) (most : Int64) (post : Int32 → Prop) : Prop :=
  ((lg_cmp v least) < 0 → (post (0 : Int32))) ∧ (¬ (lg_cmp v least) < 0 → ((0 < (lg_cmp v most) → (post (0 : Int32))) ∧ (¬ 0 < (lg_cmp v most) → (post (1 : Int32)))))
def rm_X8_in : Room := { frames := 0, cells := 0, slots := 0, locals := 0 }
set_option maxHeartbeats 4000000 in
set_option maxRecDepth 100000 in
theorem c_X8_in (l : Launch) (D : va_G) (ca : Nat → ClassId)   (v : Int64) (least : Int64) (most : Int64) (post : Int32 → Prop) (h : wp_X8_in v least most post) : Met l yX8_in wsX8_in rm_X8_in (PcX D ca [.long v, .long least, .long most] ([])) (rdZ post) 0 0 (fun _ => False) := by
  refine Met.ofW (cc := cX8_in) (maxL := 6) (ret := (some .boolean)) (by decide) rfl ?_
  intro zp ze zs zm za zb zt zc z1 B hml hv
  obtain ⟨rfl, hP, hK⟩ := hv
  have hx := B.exec
  have hb := B.bytes
  have hr := B.returns
  have hts := atoms_spec (ws := wsX8_in) B.pre
  have hown : zs.vm.findClass RX8 = some zm.cls := findClass_of_methodNamed B.named
  have hlocks := B.notSynchronized
  have hl := lv_entry ([.long v, .long least, .long most]) (n := 6) (Nat.le_of_ble_eq_true rfl)
  rw [lg_entry_eq]
  generalize (lg_sl ([.long v, .long least, .long most]) ++ List.replicate (6 - (lg_sl ([.long v, .long least, .long most])).length) Slot.unset).toArray = ls at hl ⊢
  replace hl : lv_has ls 6 [(0, .long v), (2, .long least), (4, .long most)] := hl
  show W zp l ze rm_X8_in zs zm ([.long v, .long least, .long most] : List Value).toArray zb zt zc zs.heap [] 0 0 (MQ zb (rdZ post) ([.long v, .long least, .long most] : List Value).toArray zs 0 0 (fun _ => False)) (F0 zm 0 ls [])
  unfold wp_X8_in at h
  refine lv_lload_n hx hb dX8_in_0 rfl (lv_at hl 0 rfl) ?_
  refine lv_lload_n hx hb dX8_in_1 rfl (lv_at hl 1 rfl) ?_
  refine W.lcmp hx hb dX8_in_2 ?_
  refine lv_if_lt (tgt := 17) hx hb dX8_in_3 (by decide) (fun hc => ?_) (fun hc => ?_)
  · have h := h.1 hc
    refine lv_iconst (v := (0)) hx hb dX8_in_17 (by decide) ?_
    exact W.zret (v := (0 : Int32)) hx hb hr nar0 (fun zt ht hW => ⟨(0 : Int32), rfl, ⟨h, nar0⟩, ht⟩) (fun zq hq => absurd hq List.not_mem_nil) dX8_in_18
  · have h := h.2 hc
    refine lv_lload_n hx hb dX8_in_6 rfl (lv_at hl 0 rfl) ?_
    refine lv_lload hx hb dX8_in_7 (lv_at hl 2 rfl) ?_
    refine W.lcmp hx hb dX8_in_9 ?_
    refine lv_if_gt (tgt := 17) hx hb dX8_in_10 (by decide) (fun hc => ?_) (fun hc => ?_)
    · have h := h.1 hc
      refine lv_iconst (v := (0)) hx hb dX8_in_17 (by decide) ?_
      exact W.zret (v := (0 : Int32)) hx hb hr nar0 (fun zt ht hW => ⟨(0 : Int32), rfl, ⟨h, nar0⟩, ht⟩) (fun zq hq => absurd hq List.not_mem_nil) dX8_in_18
    · have h := h.2 hc
      refine lv_iconst (v := (1)) hx hb dX8_in_13 (by decide) ?_
      refine lv_goto (tgt := 18) hx hb dX8_in_14 (by decide) ?_
      exact W.zret (v := (1 : Int32)) hx hb hr nar1 (fun zt ht hW => ⟨(1 : Int32), rfl, ⟨h, nar1⟩, ht⟩) (fun zq hq => absurd hq List.not_mem_nil) dX8_in_18

-- IronedQuarrelsModel.found(I)I
def wp_X8_found (findings : Nat → Int32) (what : Int32) (post : Int32 → (Int32) → (Nat → Int32) → Prop) : Prop :=
  vp_in what 6 ∧ vp_in what 6 ∧ post (-3 : Int32) what (upd findings (what.toNatClampNeg) ((findings what.toNatClampNeg) + (1 : Int32)))
def rm_X8_found : Room := { frames := 0, cells := 0, slots := 0, locals := 0 }
theorem k_X8_found_1 : Cond.fieldLink RX8 52 "IronedQuarrelsModel" "finding" "I" ∈ wsX8_found := List.mem_of_getElem? (i := 1) (by decide +kernel)
theorem k_X8_found_2 : Cond.fieldLink RX8 36 "IronedQuarrelsModel" "findings" "[I" ∈ wsX8_found := List.mem_of_getElem? (i := 2) (by decide +kernel)
theorem hi_X8_found_X8 : ∀ w ∈ wsX80, w ∈ wsX8_found := fun w h => List.mem_cons_of_mem _ (List.mem_append_right _ h)
set_option maxHeartbeats 4000000 in
set_option maxRecDepth 100000 in
theorem c_X8_found (l : Launch) (D : va_G) (ca : Nat → ClassId) (a : Nat → Nat) (rowSizes : Nat → Int32) (rows : Nat → Int32) (textSizes : Nat → Int32) (texts : Nat → Int32) (now : Nat → Int32) (keeps : Nat → Int32) (kept : Nat → Int32) (asked : Int32) (upper : Int64) (lower : Int64) (finding : Int32) (findings : Nat → Int32) (read : Nat → Int32) (at_ : Int32) (costs : Nat → Int32) (ways : Nat → Int64) (reach : Nat → Int32) (what : Int32) (post : Int32 → (Int32) → (Nat → Int32) → Prop) (hd : va_D (fun _ => True) (W_X8 ca a rowSizes rows textSizes texts now keeps kept asked upper lower finding findings read at_ costs ways reach)) (h : wp_X8_found findings what post) : Met l yX8_found wsX8_found rm_X8_found (PcX D ca [.ref (a 0), .int what] (W_X8 ca a rowSizes rows textSizes texts now keeps kept asked upper lower finding findings read at_ costs ways reach)) (wrI (S := (Int32) × (Nat → Int32)) D (W_X8 ca a rowSizes rows textSizes texts now keeps kept asked upper lower finding findings read at_ costs ways reach) (fun zu => W_X8 ca a rowSizes rows textSizes texts now keeps kept asked upper lower zu.1 zu.2 read at_ costs ways reach) (fun zr zu => post zr zu.1 zu.2)) 0 0 (adr (W_X8 ca a rowSizes rows textSizes texts now keeps kept asked upper lower finding findings read at_ costs ways reach)) := by
  refine Met.ofW (cc := cX8_found) (maxL := 2) (ret := (some .int)) (by decide) rfl ?_
  intro zp ze zs zm za zb zt zc z1 B hml hv
  obtain ⟨rfl, hP, hK⟩ := hv
  have hx := B.exec
  have hb := B.bytes
  have hr := B.returns
  have hts := atoms_spec (ws := wsX8_found) B.pre
  have hown : zs.vm.findClass RX8 = some zm.cls := findClass_of_methodNamed B.named
  have hlocks := B.notSynchronized
  have hD : va_D (adr (W_X8 ca a rowSizes rows textSizes texts now keeps kept asked upper lower finding findings read at_ costs ways reach)) (W_X8 ca a rowSizes rows textSizes texts now keeps kept asked upper lower finding findings read at_ costs ways reach) := hd.adr
  have hS : va_S (adr (W_X8 ca a rowSizes rows textSizes texts now keeps kept asked upper lower finding findings read at_ costs ways reach)) zs.heap zs.heap [] := va_S.rf
  have hl := lv_entry ([.ref (a 0), .int what]) (n := 2) (Nat.le_of_ble_eq_true rfl)
  rw [lg_entry_eq]
  generalize (lg_sl ([.ref (a 0), .int what]) ++ List.replicate (2 - (lg_sl ([.ref (a 0), .int what])).length) Slot.unset).toArray = ls at hl ⊢
  replace hl : lv_has ls 2 [(0, .ref (a 0)), (1, .int what)] := hl
  show W zp l ze rm_X8_found zs zm ([.ref (a 0), .int what] : List Value).toArray zb zt zc zs.heap [] 0 0 (MQ zb (wrI (S := (Int32) × (Nat → Int32)) D (W_X8 ca a rowSizes rows textSizes texts now keeps kept asked upper lower finding findings read at_ costs ways reach) (fun zu => W_X8 ca a rowSizes rows textSizes texts now keeps kept asked upper lower zu.1 zu.2 read at_ costs ways reach) (fun zr zu => post zr zu.1 zu.2)) ([.ref (a 0), .int what] : List Value).toArray zs 0 0 (adr (W_X8 ca a rowSizes rows textSizes texts now keeps kept asked upper lower finding findings read at_ costs ways reach))) (F0 zm 0 ls [])
  unfold wp_X8_found at h
  refine lv_aload_n hx hb dX8_found_0 rfl (lv_at hl 0 rfl) ?_
  refine lv_iload_n hx hb dX8_found_1 rfl (lv_at hl 1 rfl) ?_
  refine va_put (D := D) (ci := 7) (v := .int what) (ty := .int) (C := RX8) (T := TX8) (N := 17) hx hb hts hi_X8_found_X8 tyX8 tyX8_ok nmX8 hown hK.1 hP hD hS 0 rfl rfl 10 (by decide) (hts _ k_X8_found_1) (fun _ h9 => h9) rfl (by decide +kernel) rfl rfl (Nat.le_of_ble_eq_true rfl) dX8_found_2 (fun H locs hP hD hS => ?_)
  have hP : va_P D vwCl (W_X8 ca a rowSizes rows textSizes texts now keeps kept asked upper lower what findings read at_ costs ways reach) H := hP
  have hD : va_D _ (W_X8 ca a rowSizes rows textSizes texts now keeps kept asked upper lower what findings read at_ costs ways reach) := hD
  refine lv_aload_n hx hb dX8_found_5 rfl (lv_at hl 0 rfl) ?_
  refine va_get (D := D) (ci := 7) (v := .ref (a 8)) (C := RX8) (T := TX8) (N := 17) hx hb hts hi_X8_found_X8 hown hK.1 hP 0 rfl rfl 11 (by decide) (hts _ k_X8_found_2) (fun _ h9 => h9) rfl dX8_found_6 ?_
  refine lv_iload_n hx hb dX8_found_9 rfl (lv_at hl 1 rfl) ?_
  refine lv_dup2_11 hx hb dX8_found_10 rfl rfl ?_
  obtain ⟨hi, h⟩ := h
  refine x_iald (v := findings what.toNatClampNeg) hx hb hK hP 8 rfl hi rfl dX8_found_11 ?_
  refine lv_iconst (v := (1)) hx hb dX8_found_12 (by decide) ?_
  refine lv_iadd hx hb dX8_found_13 ?_
  obtain ⟨hi, h⟩ := h
  refine x_iast (ws' := W_X8 ca a rowSizes rows textSizes texts now keeps kept asked upper lower what (upd findings (what.toNatClampNeg) ((findings what.toNatClampNeg) + (1 : Int32))) read at_ costs ways reach) hx hb hK hP hD hS 8 rfl hi (k := (what.toNatClampNeg)) rfl rfl dX8_found_14 (fun H locs hP hD hS => ?_)
  refine lv_bipush (v := (-3)) hx hb dX8_found_15 (by decide) ?_
  exact W.iret (v := (-3 : Int32)) hx hb hr (fun zt ht hW => ⟨⟨(-3 : Int32), (what, upd findings (what.toNatClampNeg) ((findings what.toNatClampNeg) + (1 : Int32))), rfl, h, by rw [ht]; exact hP⟩, hS.F ht⟩) hS.2.2 dX8_found_17

-- IronedQuarrelsModel.tell(I)I
def wp_X8_tell (v : Int32) (post : Int32 → (Int32) → Prop) : Prop :=
  post (1 : Int32) v
def rm_X8_tell : Room := { frames := 0, cells := 0, slots := 0, locals := 0 }
theorem k_X8_tell_1 : Cond.fieldLink RX8 56 "IronedQuarrelsModel" "asked" "I" ∈ wsX8_tell := List.mem_of_getElem? (i := 1) (by decide +kernel)
theorem hi_X8_tell_X8 : ∀ w ∈ wsX80, w ∈ wsX8_tell := fun w h => List.mem_cons_of_mem _ (List.mem_append_right _ h)
set_option maxHeartbeats 4000000 in
set_option maxRecDepth 100000 in
theorem c_X8_tell (l : Launch) (D : va_G) (ca : Nat → ClassId) (a : Nat → Nat) (rowSizes : Nat → Int32) (rows : Nat → Int32) (textSizes : Nat → Int32) (texts : Nat → Int32) (now : Nat → Int32) (keeps : Nat → Int32) (kept : Nat → Int32) (asked : Int32) (upper : Int64) (lower : Int64) (finding : Int32) (findings : Nat → Int32) (read : Nat → Int32) (at_ : Int32) (costs : Nat → Int32) (ways : Nat → Int64) (reach : Nat → Int32) (v : Int32) (post : Int32 → (Int32) → Prop) (hd : va_D (fun _ => True) (W_X8 ca a rowSizes rows textSizes texts now keeps kept asked upper lower finding findings read at_ costs ways reach)) (h : wp_X8_tell v post) : Met l yX8_tell wsX8_tell rm_X8_tell (PcX D ca [.ref (a 0), .int v] (W_X8 ca a rowSizes rows textSizes texts now keeps kept asked upper lower finding findings read at_ costs ways reach)) (wrI (S := (Int32)) D (W_X8 ca a rowSizes rows textSizes texts now keeps kept asked upper lower finding findings read at_ costs ways reach) (fun zu => W_X8 ca a rowSizes rows textSizes texts now keeps kept zu upper lower finding findings read at_ costs ways reach) (fun zr zu => post zr zu)) 0 0 (adr (W_X8 ca a rowSizes rows textSizes texts now keeps kept asked upper lower finding findings read at_ costs ways reach)) := by
  refine Met.ofW (cc := cX8_tell) (maxL := 2) (ret := (some .int)) (by decide) rfl ?_
  intro zp ze zs zm za zb zt zc z1 B hml hv
  obtain ⟨rfl, hP, hK⟩ := hv
  have hx := B.exec
  have hb := B.bytes
  have hr := B.returns
  have hts := atoms_spec (ws := wsX8_tell) B.pre
  have hown : zs.vm.findClass RX8 = some zm.cls := findClass_of_methodNamed B.named
  have hlocks := B.notSynchronized
  have hD : va_D (adr (W_X8 ca a rowSizes rows textSizes texts now keeps kept asked upper lower finding findings read at_ costs ways reach)) (W_X8 ca a rowSizes rows textSizes texts now keeps kept asked upper lower finding findings read at_ costs ways reach) := hd.adr
  have hS : va_S (adr (W_X8 ca a rowSizes rows textSizes texts now keeps kept asked upper lower finding findings read at_ costs ways reach)) zs.heap zs.heap [] := va_S.rf
  have hl := lv_entry ([.ref (a 0), .int v]) (n := 2) (Nat.le_of_ble_eq_true rfl)
  rw [lg_entry_eq]
  generalize (lg_sl ([.ref (a 0), .int v]) ++ List.replicate (2 - (lg_sl ([.ref (a 0), .int v])).length) Slot.unset).toArray = ls at hl ⊢
  replace hl : lv_has ls 2 [(0, .ref (a 0)), (1, .int v)] := hl
  show W zp l ze rm_X8_tell zs zm ([.ref (a 0), .int v] : List Value).toArray zb zt zc zs.heap [] 0 0 (MQ zb (wrI (S := (Int32)) D (W_X8 ca a rowSizes rows textSizes texts now keeps kept asked upper lower finding findings read at_ costs ways reach) (fun zu => W_X8 ca a rowSizes rows textSizes texts now keeps kept zu upper lower finding findings read at_ costs ways reach) (fun zr zu => post zr zu)) ([.ref (a 0), .int v] : List Value).toArray zs 0 0 (adr (W_X8 ca a rowSizes rows textSizes texts now keeps kept asked upper lower finding findings read at_ costs ways reach))) (F0 zm 0 ls [])
  unfold wp_X8_tell at h
  refine lv_aload_n hx hb dX8_tell_0 rfl (lv_at hl 0 rfl) ?_
  refine lv_iload_n hx hb dX8_tell_1 rfl (lv_at hl 1 rfl) ?_
  refine va_put (D := D) (ci := 7) (v := .int v) (ty := .int) (C := RX8) (T := TX8) (N := 17) hx hb hts hi_X8_tell_X8 tyX8 tyX8_ok nmX8 hown hK.1 hP hD hS 0 rfl rfl 7 (by decide) (hts _ k_X8_tell_1) (fun _ h9 => h9) rfl (by decide +kernel) rfl rfl (Nat.le_of_ble_eq_true rfl) dX8_tell_2 (fun H locs hP hD hS => ?_)
  have hP : va_P D vwCl (W_X8 ca a rowSizes rows textSizes texts now keeps kept v upper lower finding findings read at_ costs ways reach) H := hP
  have hD : va_D _ (W_X8 ca a rowSizes rows textSizes texts now keeps kept v upper lower finding findings read at_ costs ways reach) := hD
  refine lv_iconst (v := (1)) hx hb dX8_tell_5 (by decide) ?_
  exact W.iret (v := (1 : Int32)) hx hb hr (fun zt ht hW => ⟨⟨(1 : Int32), v, rfl, h, by rw [ht]; exact hP⟩, hS.F ht⟩) hS.2.2 dX8_tell_6

-- IronedQuarrelsModel.answer(II)I
def wp_X8_answer (v : Int32) (told : Int32) (post : Int32 → (Int32) → Prop) : Prop :=
  post v told
def rm_X8_answer : Room := { frames := 0, cells := 0, slots := 0, locals := 0 }
theorem k_X8_answer_1 : Cond.fieldLink RX8 56 "IronedQuarrelsModel" "asked" "I" ∈ wsX8_answer := List.mem_of_getElem? (i := 1) (by decide +kernel)
theorem hi_X8_answer_X8 : ∀ w ∈ wsX80, w ∈ wsX8_answer := fun w h => List.mem_cons_of_mem _ (List.mem_append_right _ h)
set_option maxHeartbeats 4000000 in
set_option maxRecDepth 100000 in
theorem c_X8_answer (l : Launch) (D : va_G) (ca : Nat → ClassId) (a : Nat → Nat) (rowSizes : Nat → Int32) (rows : Nat → Int32) (textSizes : Nat → Int32) (texts : Nat → Int32) (now : Nat → Int32) (keeps : Nat → Int32) (kept : Nat → Int32) (asked : Int32) (upper : Int64) (lower : Int64) (finding : Int32) (findings : Nat → Int32) (read : Nat → Int32) (at_ : Int32) (costs : Nat → Int32) (ways : Nat → Int64) (reach : Nat → Int32) (v : Int32) (told : Int32) (post : Int32 → (Int32) → Prop) (hd : va_D (fun _ => True) (W_X8 ca a rowSizes rows textSizes texts now keeps kept asked upper lower finding findings read at_ costs ways reach)) (h : wp_X8_answer v told post) : Met l yX8_answer wsX8_answer rm_X8_answer (PcX D ca [.ref (a 0), .int v, .int told] (W_X8 ca a rowSizes rows textSizes texts now keeps kept asked upper lower finding findings read at_ costs ways reach)) (wrI (S := (Int32)) D (W_X8 ca a rowSizes rows textSizes texts now keeps kept asked upper lower finding findings read at_ costs ways reach) (fun zu => W_X8 ca a rowSizes rows textSizes texts now keeps kept zu upper lower finding findings read at_ costs ways reach) (fun zr zu => post zr zu)) 0 0 (adr (W_X8 ca a rowSizes rows textSizes texts now keeps kept asked upper lower finding findings read at_ costs ways reach)) := by
  refine Met.ofW (cc := cX8_answer) (maxL := 3) (ret := (some .int)) (by decide) rfl ?_
  intro zp ze zs zm za zb zt zc z1 B hml hv
  obtain ⟨rfl, hP, hK⟩ := hv
  have hx := B.exec
  have hb := B.bytes
  have hr := B.returns
  have hts := atoms_spec (ws := wsX8_answer) B.pre
  have hown : zs.vm.findClass RX8 = some zm.cls := findClass_of_methodNamed B.named
  have hlocks := B.notSynchronized
  have hD : va_D (adr (W_X8 ca a rowSizes rows textSizes texts now keeps kept asked upper lower finding findings read at_ costs ways reach)) (W_X8 ca a rowSizes rows textSizes texts now keeps kept asked upper lower finding findings read at_ costs ways reach) := hd.adr
  have hS : va_S (adr (W_X8 ca a rowSizes rows textSizes texts now keeps kept asked upper lower finding findings read at_ costs ways reach)) zs.heap zs.heap [] := va_S.rf
  have hl := lv_entry ([.ref (a 0), .int v, .int told]) (n := 3) (Nat.le_of_ble_eq_true rfl)
  rw [lg_entry_eq]
  generalize (lg_sl ([.ref (a 0), .int v, .int told]) ++ List.replicate (3 - (lg_sl ([.ref (a 0), .int v, .int told])).length) Slot.unset).toArray = ls at hl ⊢
  replace hl : lv_has ls 3 [(0, .ref (a 0)), (1, .int v), (2, .int told)] := hl
  show W zp l ze rm_X8_answer zs zm ([.ref (a 0), .int v, .int told] : List Value).toArray zb zt zc zs.heap [] 0 0 (MQ zb (wrI (S := (Int32)) D (W_X8 ca a rowSizes rows textSizes texts now keeps kept asked upper lower finding findings read at_ costs ways reach) (fun zu => W_X8 ca a rowSizes rows textSizes texts now keeps kept zu upper lower finding findings read at_ costs ways reach) (fun zr zu => post zr zu)) ([.ref (a 0), .int v, .int told] : List Value).toArray zs 0 0 (adr (W_X8 ca a rowSizes rows textSizes texts now keeps kept asked upper lower finding findings read at_ costs ways reach))) (F0 zm 0 ls [])
  unfold wp_X8_answer at h
  refine lv_aload_n hx hb dX8_answer_0 rfl (lv_at hl 0 rfl) ?_
  refine lv_iload_n hx hb dX8_answer_1 rfl (lv_at hl 2 rfl) ?_
  refine va_put (D := D) (ci := 7) (v := .int told) (ty := .int) (C := RX8) (T := TX8) (N := 17) hx hb hts hi_X8_answer_X8 tyX8 tyX8_ok nmX8 hown hK.1 hP hD hS 0 rfl rfl 7 (by decide) (hts _ k_X8_answer_1) (fun _ h9 => h9) rfl (by decide +kernel) rfl rfl (Nat.le_of_ble_eq_true rfl) dX8_answer_2 (fun H locs hP hD hS => ?_)
  have hP : va_P D vwCl (W_X8 ca a rowSizes rows textSizes texts now keeps kept told upper lower finding findings read at_ costs ways reach) H := hP
  have hD : va_D _ (W_X8 ca a rowSizes rows textSizes texts now keeps kept told upper lower finding findings read at_ costs ways reach) := hD
  refine lv_iload_n hx hb dX8_answer_5 rfl (lv_at hl 1 rfl) ?_
  exact W.iret (v := v) hx hb hr (fun zt ht hW => ⟨⟨v, told, rfl, h, by rw [ht]; exact hP⟩, hS.F ht⟩) hS.2.2 dX8_answer_6

-- IronedQuarrelsModel.isRow(I)Z
def wp_X8_isRow (r : Int32) (post : Int32 → Prop) : Prop :=
  wp_X8_in r.toInt64 (0 : Int64) (5 : Int64) (fun r1 => post r1)
def rm_X8_isRow : Room := { frames := 1, cells := 0, slots := 0, locals := 25 }
theorem k_X8_isRow_1 : Cond.constantLong RX8 59 (5) ∈ wsX8_isRow := List.mem_of_getElem? (i := 1) (by decide +kernel)
set_option maxHeartbeats 4000000 in
set_option maxRecDepth 100000 in
theorem c_X8_isRow (l : Launch) (D : va_G) (ca : Nat → ClassId)   (r : Int32) (post : Int32 → Prop) (h : wp_X8_isRow r post) : Met l yX8_isRow wsX8_isRow rm_X8_isRow (PcX D ca [.int r] ([])) (rdZ post) 0 0 (fun _ => False) := by
  refine Met.ofW (cc := cX8_isRow) (maxL := 1) (ret := (some .boolean)) (by decide) rfl ?_
  intro zp ze zs zm za zb zt zc z1 B hml hv
  obtain ⟨rfl, hP, hK⟩ := hv
  have hx := B.exec
  have hb := B.bytes
  have hr := B.returns
  have hts := atoms_spec (ws := wsX8_isRow) B.pre
  have hown : zs.vm.findClass RX8 = some zm.cls := findClass_of_methodNamed B.named
  have hlocks := B.notSynchronized
  have hl := lv_entry ([.int r]) (n := 1) (Nat.le_of_ble_eq_true rfl)
  rw [lg_entry_eq]
  generalize (lg_sl ([.int r]) ++ List.replicate (1 - (lg_sl ([.int r])).length) Slot.unset).toArray = ls at hl ⊢
  replace hl : lv_has ls 1 [(0, .int r)] := hl
  show W zp l ze rm_X8_isRow zs zm ([.int r] : List Value).toArray zb zt zc zs.heap [] 0 0 (MQ zb (rdZ post) ([.int r] : List Value).toArray zs 0 0 (fun _ => False)) (F0 zm 0 ls [])
  unfold wp_X8_isRow at h
  refine lv_iload_n hx hb dX8_isRow_0 rfl (lv_at hl 0 rfl) ?_
  refine lv_i2l hx hb dX8_isRow_1 rfl ?_
  refine lv_lconst (v := (0)) hx hb dX8_isRow_2 (by decide) ?_
  refine lv_ldc2 (v := (5)) hx hb hown (hts _ k_X8_isRow_1) dX8_isRow_3 ?_
  refine rd_callz (va_runS (As := [.long r.toInt64, .long (0 : Int64), .long (5 : Int64)]) (rest := []) ⟨hx, hb, hml, hown, hts⟩ (c_X8_in l D ca   r.toInt64 (0 : Int64) (5 : Int64) _ h) (va_cwS 3 hts gX8_isRow_X8_in rfl rfl rfl (by decide +kernel) ⟨Nat.le_of_ble_eq_true rfl, Nat.le_of_ble_eq_true rfl⟩) (PcX.preS hK (fun zk zq zh => by simp at zh)) rfl rfl hl.1 rfl (lv_room (Nat.le_of_ble_eq_true rfl)) dX8_isRow_6 ⟨Nat.le_of_ble_eq_true rfl, Nat.le_of_ble_eq_true rfl⟩) (fun r1 h hz_r1 => ?_)
  try dsimp only at h
  exact W.zret (v := r1) hx hb hr hz_r1 (fun zt ht hW => ⟨r1, rfl, ⟨h, hz_r1⟩, ht⟩) (fun zq hq => absurd hq List.not_mem_nil) dX8_isRow_9

-- IronedQuarrelsModel.isText(I)Z
def wp_X8_isText (t : Int32) (post : Int32 → Prop) : Prop :=
  wp_X8_in t.toInt64 (0 : Int64) (3 : Int64) (fun r1 => post r1)
def rm_X8_isText : Room := { frames := 1, cells := 0, slots := 0, locals := 25 }
theorem k_X8_isText_1 : Cond.constantLong RX8 65 (3) ∈ wsX8_isText := List.mem_of_getElem? (i := 1) (by decide +kernel)
set_option maxHeartbeats 4000000 in
set_option maxRecDepth 100000 in
theorem c_X8_isText (l : Launch) (D : va_G) (ca : Nat → ClassId)   (t : Int32) (post : Int32 → Prop) (h : wp_X8_isText t post) : Met l yX8_isText wsX8_isText rm_X8_isText (PcX D ca [.int t] ([])) (rdZ post) 0 0 (fun _ => False) := by
  refine Met.ofW (cc := cX8_isText) (maxL := 1) (ret := (some .boolean)) (by decide) rfl ?_
  intro zp ze zs zm za zb zt zc z1 B hml hv
  obtain ⟨rfl, hP, hK⟩ := hv
  have hx := B.exec
  have hb := B.bytes
  have hr := B.returns
  have hts := atoms_spec (ws := wsX8_isText) B.pre
  have hown : zs.vm.findClass RX8 = some zm.cls := findClass_of_methodNamed B.named
  have hlocks := B.notSynchronized
  have hl := lv_entry ([.int t]) (n := 1) (Nat.le_of_ble_eq_true rfl)
  rw [lg_entry_eq]
  generalize (lg_sl ([.int t]) ++ List.replicate (1 - (lg_sl ([.int t])).length) Slot.unset).toArray = ls at hl ⊢
  replace hl : lv_has ls 1 [(0, .int t)] := hl
  show W zp l ze rm_X8_isText zs zm ([.int t] : List Value).toArray zb zt zc zs.heap [] 0 0 (MQ zb (rdZ post) ([.int t] : List Value).toArray zs 0 0 (fun _ => False)) (F0 zm 0 ls [])
  unfold wp_X8_isText at h
  refine lv_iload_n hx hb dX8_isText_0 rfl (lv_at hl 0 rfl) ?_
  refine lv_i2l hx hb dX8_isText_1 rfl ?_
  refine lv_lconst (v := (0)) hx hb dX8_isText_2 (by decide) ?_
  refine lv_ldc2 (v := (3)) hx hb hown (hts _ k_X8_isText_1) dX8_isText_3 ?_
  refine rd_callz (va_runS (As := [.long t.toInt64, .long (0 : Int64), .long (3 : Int64)]) (rest := []) ⟨hx, hb, hml, hown, hts⟩ (c_X8_in l D ca   t.toInt64 (0 : Int64) (3 : Int64) _ h) (va_cwS 3 hts gX8_isText_X8_in rfl rfl rfl (by decide +kernel) ⟨Nat.le_of_ble_eq_true rfl, Nat.le_of_ble_eq_true rfl⟩) (PcX.preS hK (fun zk zq zh => by simp at zh)) rfl rfl hl.1 rfl (lv_room (Nat.le_of_ble_eq_true rfl)) dX8_isText_6 ⟨Nat.le_of_ble_eq_true rfl, Nat.le_of_ble_eq_true rfl⟩) (fun r1 h hz_r1 => ?_)
  try dsimp only at h
  exact W.zret (v := r1) hx hb hr hz_r1 (fun zt ht hW => ⟨r1, rfl, ⟨h, hz_r1⟩, ht⟩) (fun zq hq => absurd hq List.not_mem_nil) dX8_isText_9

-- IronedQuarrelsModel.row(II)I
def wb_X8_row_34 (r : Int32) (n : Int32) (post : Int32 → (Nat → Int32) → (Nat → Int32) → (Int32) → (Nat → Int32) → Prop) (K34 : (Nat → Int32) → (Nat → Int32) → (Int32) → (Nat → Int32) → (Int32) → Prop) (rowSizes : Nat → Int32) (rows : Nat → Int32) (finding : Int32) (findings : Nat → Int32) (x3 : Int32) : Prop :=
  ((40 : Int32) ≤ x3 → (post n rowSizes rows finding findings)) ∧ (¬ (40 : Int32) ≤ x3 → (vp_in (((40 : Int32) * r) + x3) 240 ∧ K34 rowSizes (upd rows ((((40 : Int32) * r) + x3).toNatClampNeg) (0 : Int32)) finding findings (x3 + 1)))
def wl_X8_row_34 (r : Int32) (n : Int32) (post : Int32 → (Nat → Int32) → (Nat → Int32) → (Int32) → (Nat → Int32) → Prop) : Nat → (Nat → Int32) → (Nat → Int32) → (Int32) → (Nat → Int32) → (Int32) → Prop
  | 0 => fun _ _ _ _ _ => False
  | zn + 1 => wb_X8_row_34 r n post (wl_X8_row_34 r n post zn)
def wp_X8_row (rowSizes : Nat → Int32) (rows : Nat → Int32) (finding : Int32) (findings : Nat → Int32) (r : Int32) (n : Int32) (post : Int32 → (Nat → Int32) → (Nat → Int32) → (Int32) → (Nat → Int32) → Prop) : Prop :=
  wp_X8_isRow r (fun r1 => (r1 = 0 → (post (-1 : Int32) rowSizes rows finding findings)) ∧ (¬ r1 = 0 → ((n ≤ (40 : Int32) → ((0 ≤ n → (vp_in r 6 ∧ ∃ zn, wl_X8_row_34 r n post zn (upd rowSizes (r.toNatClampNeg) n) rows finding findings (0 : Int32))) ∧ (¬ 0 ≤ n → (wp_X8_found findings (5 : Int32) (fun r2 finding_3 findings_4 => post r2 rowSizes rows finding_3 findings_4))))) ∧ (¬ n ≤ (40 : Int32) → (post (-1 : Int32) rowSizes rows finding findings)))))
def rm_X8_row : Room := { frames := 2, cells := 0, slots := 0, locals := 45 }
theorem k_X8_row_1 : Cond.fieldLink RX8 7 "IronedQuarrelsModel" "rowSizes" "[I" ∈ wsX8_row := List.mem_of_getElem? (i := 1) (by decide +kernel)
theorem k_X8_row_2 : Cond.fieldLink RX8 13 "IronedQuarrelsModel" "rows" "[I" ∈ wsX8_row := List.mem_of_getElem? (i := 2) (by decide +kernel)
theorem hi_X8_row_X8 : ∀ w ∈ wsX80, w ∈ wsX8_row := fun w h => List.mem_cons_of_mem _ (List.mem_append_right _ h)
set_option maxHeartbeats 4000000 in
set_option maxRecDepth 100000 in
theorem c_X8_row (l : Launch) (D : va_G) (ca : Nat → ClassId) (a : Nat → Nat) (rowSizes : Nat → Int32) (rows : Nat → Int32) (textSizes : Nat → Int32) (texts : Nat → Int32) (now : Nat → Int32) (keeps : Nat → Int32) (kept : Nat → Int32) (asked : Int32) (upper : Int64) (lower : Int64) (finding : Int32) (findings : Nat → Int32) (read : Nat → Int32) (at_ : Int32) (costs : Nat → Int32) (ways : Nat → Int64) (reach : Nat → Int32) (r : Int32) (n : Int32) (post : Int32 → (Nat → Int32) → (Nat → Int32) → (Int32) → (Nat → Int32) → Prop) (hd : va_D (fun _ => True) (W_X8 ca a rowSizes rows textSizes texts now keeps kept asked upper lower finding findings read at_ costs ways reach)) (h : wp_X8_row rowSizes rows finding findings r n post) : Met l yX8_row wsX8_row rm_X8_row (PcX D ca [.ref (a 0), .int r, .int n] (W_X8 ca a rowSizes rows textSizes texts now keeps kept asked upper lower finding findings read at_ costs ways reach)) (wrI (S := (Nat → Int32) × (Nat → Int32) × (Int32) × (Nat → Int32)) D (W_X8 ca a rowSizes rows textSizes texts now keeps kept asked upper lower finding findings read at_ costs ways reach) (fun zu => W_X8 ca a zu.1 zu.2.1 textSizes texts now keeps kept asked upper lower zu.2.2.1 zu.2.2.2 read at_ costs ways reach) (fun zr zu => post zr zu.1 zu.2.1 zu.2.2.1 zu.2.2.2)) 0 0 (adr (W_X8 ca a rowSizes rows textSizes texts now keeps kept asked upper lower finding findings read at_ costs ways reach)) := by
  refine Met.ofW (cc := cX8_row) (maxL := 4) (ret := (some .int)) (by decide) rfl ?_
  intro zp ze zs zm za zb zt zc z1 B hml hv
  obtain ⟨rfl, hP, hK⟩ := hv
  have hx := B.exec
  have hb := B.bytes
  have hr := B.returns
  have hts := atoms_spec (ws := wsX8_row) B.pre
  have hown : zs.vm.findClass RX8 = some zm.cls := findClass_of_methodNamed B.named
  have hlocks := B.notSynchronized
  have hD : va_D (adr (W_X8 ca a rowSizes rows textSizes texts now keeps kept asked upper lower finding findings read at_ costs ways reach)) (W_X8 ca a rowSizes rows textSizes texts now keeps kept asked upper lower finding findings read at_ costs ways reach) := hd.adr
  have hS : va_S (adr (W_X8 ca a rowSizes rows textSizes texts now keeps kept asked upper lower finding findings read at_ costs ways reach)) zs.heap zs.heap [] := va_S.rf
  have hl := lv_entry ([.ref (a 0), .int r, .int n]) (n := 4) (Nat.le_of_ble_eq_true rfl)
  rw [lg_entry_eq]
  generalize (lg_sl ([.ref (a 0), .int r, .int n]) ++ List.replicate (4 - (lg_sl ([.ref (a 0), .int r, .int n])).length) Slot.unset).toArray = ls at hl ⊢
  replace hl : lv_has ls 4 [(0, .ref (a 0)), (1, .int r), (2, .int n)] := hl
  show W zp l ze rm_X8_row zs zm ([.ref (a 0), .int r, .int n] : List Value).toArray zb zt zc zs.heap [] 0 0 (MQ zb (wrI (S := (Nat → Int32) × (Nat → Int32) × (Int32) × (Nat → Int32)) D (W_X8 ca a rowSizes rows textSizes texts now keeps kept asked upper lower finding findings read at_ costs ways reach) (fun zu => W_X8 ca a zu.1 zu.2.1 textSizes texts now keeps kept asked upper lower zu.2.2.1 zu.2.2.2 read at_ costs ways reach) (fun zr zu => post zr zu.1 zu.2.1 zu.2.2.1 zu.2.2.2)) ([.ref (a 0), .int r, .int n] : List Value).toArray zs 0 0 (adr (W_X8 ca a rowSizes rows textSizes texts now keeps kept asked upper lower finding findings read at_ costs ways reach))) (F0 zm 0 ls [])
  have w_34 : ∀ (zn : Nat) (rowSizes : Nat → Int32) (rows : Nat → Int32) (finding : Int32) (findings : Nat → Int32) (x3 : Int32), wl_X8_row_34 r n post zn rowSizes rows finding findings x3 → ∀ (H : Heap) (locs : List Loc), va_P D vwCl (W_X8 ca a rowSizes rows textSizes texts now keeps kept asked upper lower finding findings read at_ costs ways reach) H → va_D (adr (W_X8 ca a rowSizes rows textSizes texts now keeps kept asked upper lower finding findings read at_ costs ways reach)) (W_X8 ca a rowSizes rows textSizes texts now keeps kept asked upper lower finding findings read at_ costs ways reach) → va_S (adr (W_X8 ca a rowSizes rows textSizes texts now keeps kept asked upper lower finding findings read at_ costs ways reach)) zs.heap H locs → ∀ ls : Array Slot, lv_has ls 4 [(0, .ref (a 0)), (1, .int r), (2, .int n), (3, .int x3)] → W zp l ze rm_X8_row zs zm ([.ref (a 0), .int r, .int n] : List Value).toArray zb zt zc H locs 0 0 (MQ zb (wrI (S := (Nat → Int32) × (Nat → Int32) × (Int32) × (Nat → Int32)) D (W_X8 ca a rowSizes rows textSizes texts now keeps kept asked upper lower finding findings read at_ costs ways reach) (fun zu => W_X8 ca a zu.1 zu.2.1 textSizes texts now keeps kept asked upper lower zu.2.2.1 zu.2.2.2 read at_ costs ways reach) (fun zr zu => post zr zu.1 zu.2.1 zu.2.2.1 zu.2.2.2)) ([.ref (a 0), .int r, .int n] : List Value).toArray zs 0 0 (adr (W_X8 ca a rowSizes rows textSizes texts now keeps kept asked upper lower finding findings read at_ costs ways reach))) (F0 zm 34 ls []) := by
    intro zn
    induction zn with
    | zero => intro rowSizes rows finding findings x3 h; exact h.elim
    | succ zn ih34 =>
      intro rowSizes rows finding findings x3 h H locs hP hD hS ls hl
      replace h : wb_X8_row_34 r n post (wl_X8_row_34 r n post zn) rowSizes rows finding findings x3 := h
      unfold wb_X8_row_34 at h
      refine lv_iload_n hx hb dX8_row_34 rfl (lv_at hl 3 rfl) ?_
      refine lv_bipush (v := (40)) hx hb dX8_row_35 (by decide) ?_
      refine lv_icmp_ge (tgt := 58) hx hb dX8_row_37 (by decide) (fun hc => ?_) (fun hc => ?_)
      · have h := h.1 hc
        refine lv_iload_n hx hb dX8_row_58 rfl (lv_at hl 2 rfl) ?_
        exact W.iret (v := n) hx hb hr (fun zt ht hW => ⟨⟨n, (rowSizes, rows, finding, findings), rfl, h, by rw [ht]; exact hP⟩, hS.F ht⟩) hS.2.2 dX8_row_59
      · have h := h.2 hc
        refine lv_aload_n hx hb dX8_row_40 rfl (lv_at hl 0 rfl) ?_
        refine va_get (D := D) (ci := 7) (v := .ref (a 2)) (C := RX8) (T := TX8) (N := 17) hx hb hts hi_X8_row_X8 hown hK.1 hP 0 rfl rfl 1 (by decide) (hts _ k_X8_row_2) (fun _ h9 => h9) rfl dX8_row_41 ?_
        refine lv_bipush (v := (40)) hx hb dX8_row_44 (by decide) ?_
        refine lv_iload_n hx hb dX8_row_46 rfl (lv_at hl 1 rfl) ?_
        refine lv_imul hx hb dX8_row_47 ?_
        refine lv_iload_n hx hb dX8_row_48 rfl (lv_at hl 3 rfl) ?_
        refine lv_iadd hx hb dX8_row_49 ?_
        refine lv_iconst (v := (0)) hx hb dX8_row_50 (by decide) ?_
        obtain ⟨hi, h⟩ := h
        refine x_iast (ws' := W_X8 ca a rowSizes (upd rows ((((40 : Int32) * r) + x3).toNatClampNeg) (0 : Int32)) textSizes texts now keeps kept asked upper lower finding findings read at_ costs ways reach) hx hb hK hP hD hS 2 rfl hi (k := ((((40 : Int32) * r) + x3).toNatClampNeg)) rfl rfl dX8_row_51 (fun H locs hP hD hS => ?_)
        refine lv_iinc (v := x3 + 1) (lv' := [(3, .int (x3 + 1)), (0, .ref (a 0)), (1, .int r), (2, .int n)]) hx hb dX8_row_52 hl (k := 3) rfl rfl (by decide) rfl (fun ls hl => ?_)
        refine lv_goto (tgt := 34) hx hb dX8_row_55 (by decide) ?_
        exact ih34 rowSizes (upd rows ((((40 : Int32) * r) + x3).toNatClampNeg) (0 : Int32)) finding findings (x3 + 1) h _ _ hP hD hS ls (lv_sub hl [1, 2, 3, 0] rfl)
  unfold wp_X8_row at h
  refine lv_iload_n hx hb dX8_row_0 rfl (lv_at hl 1 rfl) ?_
  refine rd_callz (va_runS (As := [.int r]) (rest := []) ⟨hx, hb, hml, hown, hts⟩ (c_X8_isRow l D ca   r _ h) (va_cwS 1 hts gX8_row_X8_isRow rfl rfl rfl (by decide +kernel) ⟨Nat.le_of_ble_eq_true rfl, Nat.le_of_ble_eq_true rfl⟩) (PcX.preS hK (fun zk zq zh => by simp at zh)) rfl rfl hl.1 rfl (lv_room (Nat.le_of_ble_eq_true rfl)) dX8_row_1 ⟨Nat.le_of_ble_eq_true rfl, Nat.le_of_ble_eq_true rfl⟩) (fun r1 h hz_r1 => ?_)
  try dsimp only at h
  refine lv_if_eq (tgt := 13) hx hb dX8_row_4 (by decide) (fun hc => ?_) (fun hc => ?_)
  · have h := h.1 hc
    refine lv_iconst (v := (-1)) hx hb dX8_row_13 (by decide) ?_
    exact W.iret (v := (-1 : Int32)) hx hb hr (fun zt ht hW => ⟨⟨(-1 : Int32), (rowSizes, rows, finding, findings), rfl, h, by rw [ht]; exact hP⟩, hS.F ht⟩) hS.2.2 dX8_row_14
  · have h := h.2 hc
    refine lv_iload_n hx hb dX8_row_7 rfl (lv_at hl 2 rfl) ?_
    refine lv_bipush (v := (40)) hx hb dX8_row_8 (by decide) ?_
    refine lv_icmp_le (tgt := 15) hx hb dX8_row_10 (by decide) (fun hc => ?_) (fun hc => ?_)
    · have h := h.1 hc
      refine lv_iload_n hx hb dX8_row_15 rfl (lv_at hl 2 rfl) ?_
      refine lv_if_ge (tgt := 25) hx hb dX8_row_16 (by decide) (fun hc => ?_) (fun hc => ?_)
      · have h := h.1 hc
        refine lv_aload_n hx hb dX8_row_25 rfl (lv_at hl 0 rfl) ?_
        refine va_get (D := D) (ci := 7) (v := .ref (a 1)) (C := RX8) (T := TX8) (N := 17) hx hb hts hi_X8_row_X8 hown hK.1 hP 0 rfl rfl 0 (by decide) (hts _ k_X8_row_1) (fun _ h9 => h9) rfl dX8_row_26 ?_
        refine lv_iload_n hx hb dX8_row_29 rfl (lv_at hl 1 rfl) ?_
        refine lv_iload_n hx hb dX8_row_30 rfl (lv_at hl 2 rfl) ?_
        obtain ⟨hi, h⟩ := h
        refine x_iast (ws' := W_X8 ca a (upd rowSizes (r.toNatClampNeg) n) rows textSizes texts now keeps kept asked upper lower finding findings read at_ costs ways reach) hx hb hK hP hD hS 1 rfl hi (k := (r.toNatClampNeg)) rfl rfl dX8_row_31 (fun H locs hP hD hS => ?_)
        refine lv_iconst (v := (0)) hx hb dX8_row_32 (by decide) ?_
        refine lv_istore_n (lv' := [(3, .int (0 : Int32)), (0, .ref (a 0)), (1, .int r), (2, .int n)]) hx hb dX8_row_33 rfl hl (by decide) rfl (fun ls hl => ?_)
        obtain ⟨zn, h⟩ := h
        exact w_34  zn (upd rowSizes (r.toNatClampNeg) n) rows finding findings (0 : Int32) h _ _ hP hD hS ls (lv_sub hl [1, 2, 3, 0] rfl)
      · have h := h.2 hc
        refine lv_aload_n hx hb dX8_row_19 rfl (lv_at hl 0 rfl) ?_
        refine lv_iconst (v := (5)) hx hb dX8_row_20 (by decide) ?_
        refine wr_calli (ws1 := fun zu => W_X8 ca a rowSizes rows textSizes texts now keeps kept asked upper lower zu.1 zu.2 read at_ costs ways reach) (wr := ([] : List Nat).filterMap (fun zi => (W_X8 ca a rowSizes rows textSizes texts now keeps kept asked upper lower finding findings read at_ costs ways reach : va_W)[zi]?)) (n := 13) (va_runV (As := [.int (5 : Int32)]) (rest := []) ⟨hx, hb, hml, hown, hts⟩ (c_X8_found l D ca a rowSizes rows textSizes texts now keeps kept asked upper lower finding findings read at_ costs ways reach (5 : Int32) _ (hD.subM [0, 1, 2, 3, 4, 5, 6, 7, 8, 9, 10, 11, 12] (by decide) rfl) h) (cwV 1 hts gX8_row_X8_found rfl rfl rfl (by decide +kernel) ⟨Nat.le_of_ble_eq_true rfl, Nat.le_of_ble_eq_true rfl⟩) (PcX.preV (q := (RX8, TX8, 17)) (ci := 7) (q0 := 0) hK hP rfl rfl hP) rfl rfl hl.1 rfl (lv_room (Nat.le_of_ble_eq_true rfl)) dX8_row_21 ⟨Nat.le_of_ble_eq_true rfl, Nat.le_of_ble_eq_true rfl⟩) hP hD hS [0, 1, 2, 3, 4, 5, 6, 7, 8, 9, 10, 11, 12] [] rfl (fun _ => rfl) rfl (fun _ => rfl) (fun _ => rfl) (fun _ => rfl) (by decide +kernel) (by decide +kernel) (fun r2 zu H locs h hP hD hS => ?_)
        obtain ⟨finding_3, findings_4⟩ := zu
        have hP : va_P D vwCl (W_X8 ca a rowSizes rows textSizes texts now keeps kept asked upper lower finding_3 findings_4 read at_ costs ways reach) H := hP
        have hD : va_D _ (W_X8 ca a rowSizes rows textSizes texts now keeps kept asked upper lower finding_3 findings_4 read at_ costs ways reach) := hD
        try dsimp only at h
        exact W.iret (v := r2) hx hb hr (fun zt ht hW => ⟨⟨r2, (rowSizes, rows, finding_3, findings_4), rfl, h, by rw [ht]; exact hP⟩, hS.F ht⟩) hS.2.2 dX8_row_24
    · have h := h.2 hc
      refine lv_iconst (v := (-1)) hx hb dX8_row_13 (by decide) ?_
      exact W.iret (v := (-1 : Int32)) hx hb hr (fun zt ht hW => ⟨⟨(-1 : Int32), (rowSizes, rows, finding, findings), rfl, h, by rw [ht]; exact hP⟩, hS.F ht⟩) hS.2.2 dX8_row_14

-- IronedQuarrelsModel.lay(III)I
def wp_X8_lay (rowSizes : Nat → Int32) (rows : Nat → Int32) (asked : Int32) (finding : Int32) (findings : Nat → Int32) (r : Int32) (i : Int32) (v : Int32) (post : Int32 → (Nat → Int32) → (Int32) → (Int32) → (Nat → Int32) → Prop) : Prop :=
  wp_X8_isRow r (fun r1 => (¬ r1 = 0 → (vp_in r 6 ∧ (0 ≤ (rowSizes r.toNatClampNeg) → (vp_in r 6 ∧ wp_X8_in i.toInt64 (0 : Int64) (((rowSizes r.toNatClampNeg) - (1 : Int32)).toInt64) (fun r2 => (¬ r2 = 0 → (vp_in (((40 : Int32) * r) + i) 240 ∧ vp_in (((40 : Int32) * r) + i) 240 ∧ wp_X8_tell (rows (((40 : Int32) * r) + i).toNatClampNeg) (fun r3 asked_4 => post r3 (upd rows ((((40 : Int32) * r) + i).toNatClampNeg) v) asked_4 finding findings))) ∧ (r2 = 0 → (wp_X8_found findings (2 : Int32) (fun r5 finding_6 findings_7 => post r5 rows asked finding_6 findings_7)))))) ∧ (¬ 0 ≤ (rowSizes r.toNatClampNeg) → (wp_X8_found findings (1 : Int32) (fun r8 finding_9 findings_10 => post r8 rows asked finding_9 findings_10))))) ∧ (r1 = 0 → (post (-1 : Int32) rows asked finding findings)))
def rm_X8_lay : Room := { frames := 2, cells := 0, slots := 0, locals := 45 }
theorem k_X8_lay_1 : Cond.fieldLink RX8 7 "IronedQuarrelsModel" "rowSizes" "[I" ∈ wsX8_lay := List.mem_of_getElem? (i := 1) (by decide +kernel)
theorem k_X8_lay_2 : Cond.fieldLink RX8 13 "IronedQuarrelsModel" "rows" "[I" ∈ wsX8_lay := List.mem_of_getElem? (i := 2) (by decide +kernel)
theorem hi_X8_lay_X8 : ∀ w ∈ wsX80, w ∈ wsX8_lay := fun w h => List.mem_cons_of_mem _ (List.mem_append_right _ h)
set_option maxHeartbeats 4000000 in
set_option maxRecDepth 100000 in
theorem c_X8_lay (l : Launch) (D : va_G) (ca : Nat → ClassId) (a : Nat → Nat) (rowSizes : Nat → Int32) (rows : Nat → Int32) (textSizes : Nat → Int32) (texts : Nat → Int32) (now : Nat → Int32) (keeps : Nat → Int32) (kept : Nat → Int32) (asked : Int32) (upper : Int64) (lower : Int64) (finding : Int32) (findings : Nat → Int32) (read : Nat → Int32) (at_ : Int32) (costs : Nat → Int32) (ways : Nat → Int64) (reach : Nat → Int32) (r : Int32) (i : Int32) (v : Int32) (post : Int32 → (Nat → Int32) → (Int32) → (Int32) → (Nat → Int32) → Prop) (hd : va_D (fun _ => True) (W_X8 ca a rowSizes rows textSizes texts now keeps kept asked upper lower finding findings read at_ costs ways reach)) (h : wp_X8_lay rowSizes rows asked finding findings r i v post) : Met l yX8_lay wsX8_lay rm_X8_lay (PcX D ca [.ref (a 0), .int r, .int i, .int v] (W_X8 ca a rowSizes rows textSizes texts now keeps kept asked upper lower finding findings read at_ costs ways reach)) (wrI (S := (Nat → Int32) × (Int32) × (Int32) × (Nat → Int32)) D (W_X8 ca a rowSizes rows textSizes texts now keeps kept asked upper lower finding findings read at_ costs ways reach) (fun zu => W_X8 ca a rowSizes zu.1 textSizes texts now keeps kept zu.2.1 upper lower zu.2.2.1 zu.2.2.2 read at_ costs ways reach) (fun zr zu => post zr zu.1 zu.2.1 zu.2.2.1 zu.2.2.2)) 0 0 (adr (W_X8 ca a rowSizes rows textSizes texts now keeps kept asked upper lower finding findings read at_ costs ways reach)) := by
  refine Met.ofW (cc := cX8_lay) (maxL := 5) (ret := (some .int)) (by decide) rfl ?_
  intro zp ze zs zm za zb zt zc z1 B hml hv
  obtain ⟨rfl, hP, hK⟩ := hv
  have hx := B.exec
  have hb := B.bytes
  have hr := B.returns
  have hts := atoms_spec (ws := wsX8_lay) B.pre
  have hown : zs.vm.findClass RX8 = some zm.cls := findClass_of_methodNamed B.named
  have hlocks := B.notSynchronized
  have hD : va_D (adr (W_X8 ca a rowSizes rows textSizes texts now keeps kept asked upper lower finding findings read at_ costs ways reach)) (W_X8 ca a rowSizes rows textSizes texts now keeps kept asked upper lower finding findings read at_ costs ways reach) := hd.adr
  have hS : va_S (adr (W_X8 ca a rowSizes rows textSizes texts now keeps kept asked upper lower finding findings read at_ costs ways reach)) zs.heap zs.heap [] := va_S.rf
  have hl := lv_entry ([.ref (a 0), .int r, .int i, .int v]) (n := 5) (Nat.le_of_ble_eq_true rfl)
  rw [lg_entry_eq]
  generalize (lg_sl ([.ref (a 0), .int r, .int i, .int v]) ++ List.replicate (5 - (lg_sl ([.ref (a 0), .int r, .int i, .int v])).length) Slot.unset).toArray = ls at hl ⊢
  replace hl : lv_has ls 5 [(0, .ref (a 0)), (1, .int r), (2, .int i), (3, .int v)] := hl
  show W zp l ze rm_X8_lay zs zm ([.ref (a 0), .int r, .int i, .int v] : List Value).toArray zb zt zc zs.heap [] 0 0 (MQ zb (wrI (S := (Nat → Int32) × (Int32) × (Int32) × (Nat → Int32)) D (W_X8 ca a rowSizes rows textSizes texts now keeps kept asked upper lower finding findings read at_ costs ways reach) (fun zu => W_X8 ca a rowSizes zu.1 textSizes texts now keeps kept zu.2.1 upper lower zu.2.2.1 zu.2.2.2 read at_ costs ways reach) (fun zr zu => post zr zu.1 zu.2.1 zu.2.2.1 zu.2.2.2)) ([.ref (a 0), .int r, .int i, .int v] : List Value).toArray zs 0 0 (adr (W_X8 ca a rowSizes rows textSizes texts now keeps kept asked upper lower finding findings read at_ costs ways reach))) (F0 zm 0 ls [])
  unfold wp_X8_lay at h
  refine lv_iload_n hx hb dX8_lay_0 rfl (lv_at hl 1 rfl) ?_
  refine rd_callz (va_runS (As := [.int r]) (rest := []) ⟨hx, hb, hml, hown, hts⟩ (c_X8_isRow l D ca   r _ h) (va_cwS 1 hts gX8_lay_X8_isRow rfl rfl rfl (by decide +kernel) ⟨Nat.le_of_ble_eq_true rfl, Nat.le_of_ble_eq_true rfl⟩) (PcX.preS hK (fun zk zq zh => by simp at zh)) rfl rfl hl.1 rfl (lv_room (Nat.le_of_ble_eq_true rfl)) dX8_lay_1 ⟨Nat.le_of_ble_eq_true rfl, Nat.le_of_ble_eq_true rfl⟩) (fun r1 h hz_r1 => ?_)
  try dsimp only at h
  refine lv_if_ne (tgt := 9) hx hb dX8_lay_4 (by decide) (fun hc => ?_) (fun hc => ?_)
  · have h := h.1 hc
    refine lv_aload_n hx hb dX8_lay_9 rfl (lv_at hl 0 rfl) ?_
    refine va_get (D := D) (ci := 7) (v := .ref (a 1)) (C := RX8) (T := TX8) (N := 17) hx hb hts hi_X8_lay_X8 hown hK.1 hP 0 rfl rfl 0 (by decide) (hts _ k_X8_lay_1) (fun _ h9 => h9) rfl dX8_lay_10 ?_
    refine lv_iload_n hx hb dX8_lay_13 rfl (lv_at hl 1 rfl) ?_
    obtain ⟨hi, h⟩ := h
    refine x_iald (v := rowSizes r.toNatClampNeg) hx hb hK hP 1 rfl hi rfl dX8_lay_14 ?_
    refine lv_if_ge (tgt := 24) hx hb dX8_lay_15 (by decide) (fun hc => ?_) (fun hc => ?_)
    · have h := h.1 hc
      refine lv_iload_n hx hb dX8_lay_24 rfl (lv_at hl 2 rfl) ?_
      refine lv_i2l hx hb dX8_lay_25 rfl ?_
      refine lv_lconst (v := (0)) hx hb dX8_lay_26 (by decide) ?_
      refine lv_aload_n hx hb dX8_lay_27 rfl (lv_at hl 0 rfl) ?_
      refine va_get (D := D) (ci := 7) (v := .ref (a 1)) (C := RX8) (T := TX8) (N := 17) hx hb hts hi_X8_lay_X8 hown hK.1 hP 0 rfl rfl 0 (by decide) (hts _ k_X8_lay_1) (fun _ h9 => h9) rfl dX8_lay_28 ?_
      refine lv_iload_n hx hb dX8_lay_31 rfl (lv_at hl 1 rfl) ?_
      obtain ⟨hi, h⟩ := h
      refine x_iald (v := rowSizes r.toNatClampNeg) hx hb hK hP 1 rfl hi rfl dX8_lay_32 ?_
      refine lv_iconst (v := (1)) hx hb dX8_lay_33 (by decide) ?_
      refine lv_isub hx hb dX8_lay_34 ?_
      refine lv_i2l hx hb dX8_lay_35 rfl ?_
      refine rd_callz (va_runS (As := [.long i.toInt64, .long (0 : Int64), .long (((rowSizes r.toNatClampNeg) - (1 : Int32)).toInt64)]) (rest := []) ⟨hx, hb, hml, hown, hts⟩ (c_X8_in l D ca   i.toInt64 (0 : Int64) (((rowSizes r.toNatClampNeg) - (1 : Int32)).toInt64) _ h) (va_cwS 3 hts gX8_lay_X8_in rfl rfl rfl (by decide +kernel) ⟨Nat.le_of_ble_eq_true rfl, Nat.le_of_ble_eq_true rfl⟩) (PcX.preS hK (fun zk zq zh => by simp at zh)) rfl rfl hl.1 rfl (lv_room (Nat.le_of_ble_eq_true rfl)) dX8_lay_36 ⟨Nat.le_of_ble_eq_true rfl, Nat.le_of_ble_eq_true rfl⟩) (fun r2 h hz_r2 => ?_)
      try dsimp only at h
      refine lv_if_ne (tgt := 48) hx hb dX8_lay_39 (by decide) (fun hc => ?_) (fun hc => ?_)
      · have h := h.1 hc
        refine lv_aload_n hx hb dX8_lay_48 rfl (lv_at hl 0 rfl) ?_
        refine va_get (D := D) (ci := 7) (v := .ref (a 2)) (C := RX8) (T := TX8) (N := 17) hx hb hts hi_X8_lay_X8 hown hK.1 hP 0 rfl rfl 1 (by decide) (hts _ k_X8_lay_2) (fun _ h9 => h9) rfl dX8_lay_49 ?_
        refine lv_bipush (v := (40)) hx hb dX8_lay_52 (by decide) ?_
        refine lv_iload_n hx hb dX8_lay_54 rfl (lv_at hl 1 rfl) ?_
        refine lv_imul hx hb dX8_lay_55 ?_
        refine lv_iload_n hx hb dX8_lay_56 rfl (lv_at hl 2 rfl) ?_
        refine lv_iadd hx hb dX8_lay_57 ?_
        obtain ⟨hi, h⟩ := h
        refine x_iald (v := rows (((40 : Int32) * r) + i).toNatClampNeg) hx hb hK hP 2 rfl hi rfl dX8_lay_58 ?_
        refine lv_istore (lv' := [(4, .int (rows (((40 : Int32) * r) + i).toNatClampNeg)), (0, .ref (a 0)), (1, .int r), (2, .int i), (3, .int v)]) hx hb dX8_lay_59 hl (by decide) rfl (fun ls hl => ?_)
        refine lv_aload_n hx hb dX8_lay_61 rfl (lv_at hl 1 rfl) ?_
        refine va_get (D := D) (ci := 7) (v := .ref (a 2)) (C := RX8) (T := TX8) (N := 17) hx hb hts hi_X8_lay_X8 hown hK.1 hP 0 rfl rfl 1 (by decide) (hts _ k_X8_lay_2) (fun _ h9 => h9) rfl dX8_lay_62 ?_
        refine lv_bipush (v := (40)) hx hb dX8_lay_65 (by decide) ?_
        refine lv_iload_n hx hb dX8_lay_67 rfl (lv_at hl 2 rfl) ?_
        refine lv_imul hx hb dX8_lay_68 ?_
        refine lv_iload_n hx hb dX8_lay_69 rfl (lv_at hl 3 rfl) ?_
        refine lv_iadd hx hb dX8_lay_70 ?_
        refine lv_iload_n hx hb dX8_lay_71 rfl (lv_at hl 4 rfl) ?_
        obtain ⟨hi, h⟩ := h
        refine x_iast (ws' := W_X8 ca a rowSizes (upd rows ((((40 : Int32) * r) + i).toNatClampNeg) v) textSizes texts now keeps kept asked upper lower finding findings read at_ costs ways reach) hx hb hK hP hD hS 2 rfl hi (k := ((((40 : Int32) * r) + i).toNatClampNeg)) rfl rfl dX8_lay_72 (fun H locs hP hD hS => ?_)
        refine lv_aload_n hx hb dX8_lay_73 rfl (lv_at hl 1 rfl) ?_
        refine lv_iload hx hb dX8_lay_74 (lv_at hl 0 rfl) ?_
        refine wr_calli (ws1 := fun zu => W_X8 ca a rowSizes (upd rows ((((40 : Int32) * r) + i).toNatClampNeg) v) textSizes texts now keeps kept zu upper lower finding findings read at_ costs ways reach) (wr := ([] : List Nat).filterMap (fun zi => (W_X8 ca a rowSizes (upd rows ((((40 : Int32) * r) + i).toNatClampNeg) v) textSizes texts now keeps kept asked upper lower finding findings read at_ costs ways reach : va_W)[zi]?)) (n := 13) (va_runV (As := [.int (rows (((40 : Int32) * r) + i).toNatClampNeg)]) (rest := []) ⟨hx, hb, hml, hown, hts⟩ (c_X8_tell l D ca a rowSizes (upd rows ((((40 : Int32) * r) + i).toNatClampNeg) v) textSizes texts now keeps kept asked upper lower finding findings read at_ costs ways reach (rows (((40 : Int32) * r) + i).toNatClampNeg) _ (hD.subM [0, 1, 2, 3, 4, 5, 6, 7, 8, 9, 10, 11, 12] (by decide) rfl) h) (cwV 1 hts gX8_lay_X8_tell rfl rfl rfl (by decide +kernel) ⟨Nat.le_of_ble_eq_true rfl, Nat.le_of_ble_eq_true rfl⟩) (PcX.preV (q := (RX8, TX8, 17)) (ci := 7) (q0 := 0) hK hP rfl rfl hP) rfl rfl hl.1 rfl (lv_room (Nat.le_of_ble_eq_true rfl)) dX8_lay_76 ⟨Nat.le_of_ble_eq_true rfl, Nat.le_of_ble_eq_true rfl⟩) hP hD hS [0, 1, 2, 3, 4, 5, 6, 7, 8, 9, 10, 11, 12] [] rfl (fun _ => rfl) rfl (fun _ => rfl) (fun _ => rfl) (fun _ => rfl) (by decide +kernel) (by decide +kernel) (fun r3 zu H locs h hP hD hS => ?_)
        obtain ⟨asked_4, rfl⟩ : ∃ zz, zz = zu := ⟨zu, rfl⟩
        have hP : va_P D vwCl (W_X8 ca a rowSizes (upd rows ((((40 : Int32) * r) + i).toNatClampNeg) v) textSizes texts now keeps kept asked_4 upper lower finding findings read at_ costs ways reach) H := hP
        have hD : va_D _ (W_X8 ca a rowSizes (upd rows ((((40 : Int32) * r) + i).toNatClampNeg) v) textSizes texts now keeps kept asked_4 upper lower finding findings read at_ costs ways reach) := hD
        try dsimp only at h
        exact W.iret (v := r3) hx hb hr (fun zt ht hW => ⟨⟨r3, (upd rows ((((40 : Int32) * r) + i).toNatClampNeg) v, asked_4, finding, findings), rfl, h, by rw [ht]; exact hP⟩, hS.F ht⟩) hS.2.2 dX8_lay_79
      · have h := h.2 hc
        refine lv_aload_n hx hb dX8_lay_42 rfl (lv_at hl 0 rfl) ?_
        refine lv_iconst (v := (2)) hx hb dX8_lay_43 (by decide) ?_
        refine wr_calli (ws1 := fun zu => W_X8 ca a rowSizes rows textSizes texts now keeps kept asked upper lower zu.1 zu.2 read at_ costs ways reach) (wr := ([] : List Nat).filterMap (fun zi => (W_X8 ca a rowSizes rows textSizes texts now keeps kept asked upper lower finding findings read at_ costs ways reach : va_W)[zi]?)) (n := 13) (va_runV (As := [.int (2 : Int32)]) (rest := []) ⟨hx, hb, hml, hown, hts⟩ (c_X8_found l D ca a rowSizes rows textSizes texts now keeps kept asked upper lower finding findings read at_ costs ways reach (2 : Int32) _ (hD.subM [0, 1, 2, 3, 4, 5, 6, 7, 8, 9, 10, 11, 12] (by decide) rfl) h) (cwV 1 hts gX8_lay_X8_found rfl rfl rfl (by decide +kernel) ⟨Nat.le_of_ble_eq_true rfl, Nat.le_of_ble_eq_true rfl⟩) (PcX.preV (q := (RX8, TX8, 17)) (ci := 7) (q0 := 0) hK hP rfl rfl hP) rfl rfl hl.1 rfl (lv_room (Nat.le_of_ble_eq_true rfl)) dX8_lay_44 ⟨Nat.le_of_ble_eq_true rfl, Nat.le_of_ble_eq_true rfl⟩) hP hD hS [0, 1, 2, 3, 4, 5, 6, 7, 8, 9, 10, 11, 12] [] rfl (fun _ => rfl) rfl (fun _ => rfl) (fun _ => rfl) (fun _ => rfl) (by decide +kernel) (by decide +kernel) (fun r5 zu H locs h hP hD hS => ?_)
        obtain ⟨finding_6, findings_7⟩ := zu
        have hP : va_P D vwCl (W_X8 ca a rowSizes rows textSizes texts now keeps kept asked upper lower finding_6 findings_7 read at_ costs ways reach) H := hP
        have hD : va_D _ (W_X8 ca a rowSizes rows textSizes texts now keeps kept asked upper lower finding_6 findings_7 read at_ costs ways reach) := hD
        try dsimp only at h
        exact W.iret (v := r5) hx hb hr (fun zt ht hW => ⟨⟨r5, (rows, asked, finding_6, findings_7), rfl, h, by rw [ht]; exact hP⟩, hS.F ht⟩) hS.2.2 dX8_lay_47
    · have h := h.2 hc
      refine lv_aload_n hx hb dX8_lay_18 rfl (lv_at hl 0 rfl) ?_
      refine lv_iconst (v := (1)) hx hb dX8_lay_19 (by decide) ?_
      refine wr_calli (ws1 := fun zu => W_X8 ca a rowSizes rows textSizes texts now keeps kept asked upper lower zu.1 zu.2 read at_ costs ways reach) (wr := ([] : List Nat).filterMap (fun zi => (W_X8 ca a rowSizes rows textSizes texts now keeps kept asked upper lower finding findings read at_ costs ways reach : va_W)[zi]?)) (n := 13) (va_runV (As := [.int (1 : Int32)]) (rest := []) ⟨hx, hb, hml, hown, hts⟩ (c_X8_found l D ca a rowSizes rows textSizes texts now keeps kept asked upper lower finding findings read at_ costs ways reach (1 : Int32) _ (hD.subM [0, 1, 2, 3, 4, 5, 6, 7, 8, 9, 10, 11, 12] (by decide) rfl) h) (cwV 1 hts gX8_lay_X8_found rfl rfl rfl (by decide +kernel) ⟨Nat.le_of_ble_eq_true rfl, Nat.le_of_ble_eq_true rfl⟩) (PcX.preV (q := (RX8, TX8, 17)) (ci := 7) (q0 := 0) hK hP rfl rfl hP) rfl rfl hl.1 rfl (lv_room (Nat.le_of_ble_eq_true rfl)) dX8_lay_20 ⟨Nat.le_of_ble_eq_true rfl, Nat.le_of_ble_eq_true rfl⟩) hP hD hS [0, 1, 2, 3, 4, 5, 6, 7, 8, 9, 10, 11, 12] [] rfl (fun _ => rfl) rfl (fun _ => rfl) (fun _ => rfl) (fun _ => rfl) (by decide +kernel) (by decide +kernel) (fun r8 zu H locs h hP hD hS => ?_)
      obtain ⟨finding_9, findings_10⟩ := zu
      have hP : va_P D vwCl (W_X8 ca a rowSizes rows textSizes texts now keeps kept asked upper lower finding_9 findings_10 read at_ costs ways reach) H := hP
      have hD : va_D _ (W_X8 ca a rowSizes rows textSizes texts now keeps kept asked upper lower finding_9 findings_10 read at_ costs ways reach) := hD
      try dsimp only at h
      exact W.iret (v := r8) hx hb hr (fun zt ht hW => ⟨⟨r8, (rows, asked, finding_9, findings_10), rfl, h, by rw [ht]; exact hP⟩, hS.F ht⟩) hS.2.2 dX8_lay_23
  · have h := h.2 hc
    refine lv_iconst (v := (-1)) hx hb dX8_lay_7 (by decide) ?_
    exact W.iret (v := (-1 : Int32)) hx hb hr (fun zt ht hW => ⟨⟨(-1 : Int32), (rows, asked, finding, findings), rfl, h, by rw [ht]; exact hP⟩, hS.F ht⟩) hS.2.2 dX8_lay_8

-- IronedQuarrelsModel.at(II)I
def wp_X8_at (rowSizes : Nat → Int32) (rows : Nat → Int32) (asked : Int32) (finding : Int32) (findings : Nat → Int32) (r : Int32) (i : Int32) (post : Int32 → (Int32) → (Int32) → (Nat → Int32) → Prop) : Prop :=
  wp_X8_isRow r (fun r1 => (¬ r1 = 0 → (vp_in r 6 ∧ (0 ≤ (rowSizes r.toNatClampNeg) → (vp_in r 6 ∧ wp_X8_in i.toInt64 (0 : Int64) (((rowSizes r.toNatClampNeg) - (1 : Int32)).toInt64) (fun r2 => (r2 = 0 → (wp_X8_found findings (2 : Int32) (fun r3 finding_4 findings_5 => post r3 asked finding_4 findings_5))) ∧ (¬ r2 = 0 → (vp_in (((40 : Int32) * r) + i) 240 ∧ wp_X8_tell (rows (((40 : Int32) * r) + i).toNatClampNeg) (fun r6 asked_7 => post r6 asked_7 finding findings)))))) ∧ (¬ 0 ≤ (rowSizes r.toNatClampNeg) → (wp_X8_found findings (1 : Int32) (fun r8 finding_9 findings_10 => post r8 asked finding_9 findings_10))))) ∧ (r1 = 0 → (post (-1 : Int32) asked finding findings)))
def rm_X8_at : Room := { frames := 2, cells := 0, slots := 0, locals := 45 }
theorem k_X8_at_1 : Cond.fieldLink RX8 7 "IronedQuarrelsModel" "rowSizes" "[I" ∈ wsX8_at := List.mem_of_getElem? (i := 1) (by decide +kernel)
theorem k_X8_at_2 : Cond.fieldLink RX8 13 "IronedQuarrelsModel" "rows" "[I" ∈ wsX8_at := List.mem_of_getElem? (i := 2) (by decide +kernel)
theorem hi_X8_at_X8 : ∀ w ∈ wsX80, w ∈ wsX8_at := fun w h => List.mem_cons_of_mem _ (List.mem_append_right _ h)
set_option maxHeartbeats 4000000 in
set_option maxRecDepth 100000 in
theorem c_X8_at (l : Launch) (D : va_G) (ca : Nat → ClassId) (a : Nat → Nat) (rowSizes : Nat → Int32) (rows : Nat → Int32) (textSizes : Nat → Int32) (texts : Nat → Int32) (now : Nat → Int32) (keeps : Nat → Int32) (kept : Nat → Int32) (asked : Int32) (upper : Int64) (lower : Int64) (finding : Int32) (findings : Nat → Int32) (read : Nat → Int32) (at_ : Int32) (costs : Nat → Int32) (ways : Nat → Int64) (reach : Nat → Int32) (r : Int32) (i : Int32) (post : Int32 → (Int32) → (Int32) → (Nat → Int32) → Prop) (hd : va_D (fun _ => True) (W_X8 ca a rowSizes rows textSizes texts now keeps kept asked upper lower finding findings read at_ costs ways reach)) (h : wp_X8_at rowSizes rows asked finding findings r i post) : Met l yX8_at wsX8_at rm_X8_at (PcX D ca [.ref (a 0), .int r, .int i] (W_X8 ca a rowSizes rows textSizes texts now keeps kept asked upper lower finding findings read at_ costs ways reach)) (wrI (S := (Int32) × (Int32) × (Nat → Int32)) D (W_X8 ca a rowSizes rows textSizes texts now keeps kept asked upper lower finding findings read at_ costs ways reach) (fun zu => W_X8 ca a rowSizes rows textSizes texts now keeps kept zu.1 upper lower zu.2.1 zu.2.2 read at_ costs ways reach) (fun zr zu => post zr zu.1 zu.2.1 zu.2.2)) 0 0 (adr (W_X8 ca a rowSizes rows textSizes texts now keeps kept asked upper lower finding findings read at_ costs ways reach)) := by
  refine Met.ofW (cc := cX8_at) (maxL := 3) (ret := (some .int)) (by decide) rfl ?_
  intro zp ze zs zm za zb zt zc z1 B hml hv
  obtain ⟨rfl, hP, hK⟩ := hv
  have hx := B.exec
  have hb := B.bytes
  have hr := B.returns
  have hts := atoms_spec (ws := wsX8_at) B.pre
  have hown : zs.vm.findClass RX8 = some zm.cls := findClass_of_methodNamed B.named
  have hlocks := B.notSynchronized
  have hD : va_D (adr (W_X8 ca a rowSizes rows textSizes texts now keeps kept asked upper lower finding findings read at_ costs ways reach)) (W_X8 ca a rowSizes rows textSizes texts now keeps kept asked upper lower finding findings read at_ costs ways reach) := hd.adr
  have hS : va_S (adr (W_X8 ca a rowSizes rows textSizes texts now keeps kept asked upper lower finding findings read at_ costs ways reach)) zs.heap zs.heap [] := va_S.rf
  have hl := lv_entry ([.ref (a 0), .int r, .int i]) (n := 3) (Nat.le_of_ble_eq_true rfl)
  rw [lg_entry_eq]
  generalize (lg_sl ([.ref (a 0), .int r, .int i]) ++ List.replicate (3 - (lg_sl ([.ref (a 0), .int r, .int i])).length) Slot.unset).toArray = ls at hl ⊢
  replace hl : lv_has ls 3 [(0, .ref (a 0)), (1, .int r), (2, .int i)] := hl
  show W zp l ze rm_X8_at zs zm ([.ref (a 0), .int r, .int i] : List Value).toArray zb zt zc zs.heap [] 0 0 (MQ zb (wrI (S := (Int32) × (Int32) × (Nat → Int32)) D (W_X8 ca a rowSizes rows textSizes texts now keeps kept asked upper lower finding findings read at_ costs ways reach) (fun zu => W_X8 ca a rowSizes rows textSizes texts now keeps kept zu.1 upper lower zu.2.1 zu.2.2 read at_ costs ways reach) (fun zr zu => post zr zu.1 zu.2.1 zu.2.2)) ([.ref (a 0), .int r, .int i] : List Value).toArray zs 0 0 (adr (W_X8 ca a rowSizes rows textSizes texts now keeps kept asked upper lower finding findings read at_ costs ways reach))) (F0 zm 0 ls [])
  unfold wp_X8_at at h
  refine lv_iload_n hx hb dX8_at_0 rfl (lv_at hl 1 rfl) ?_
  refine rd_callz (va_runS (As := [.int r]) (rest := []) ⟨hx, hb, hml, hown, hts⟩ (c_X8_isRow l D ca   r _ h) (va_cwS 1 hts gX8_at_X8_isRow rfl rfl rfl (by decide +kernel) ⟨Nat.le_of_ble_eq_true rfl, Nat.le_of_ble_eq_true rfl⟩) (PcX.preS hK (fun zk zq zh => by simp at zh)) rfl rfl hl.1 rfl (lv_room (Nat.le_of_ble_eq_true rfl)) dX8_at_1 ⟨Nat.le_of_ble_eq_true rfl, Nat.le_of_ble_eq_true rfl⟩) (fun r1 h hz_r1 => ?_)
  try dsimp only at h
  refine lv_if_ne (tgt := 9) hx hb dX8_at_4 (by decide) (fun hc => ?_) (fun hc => ?_)
  · have h := h.1 hc
    refine lv_aload_n hx hb dX8_at_9 rfl (lv_at hl 0 rfl) ?_
    refine va_get (D := D) (ci := 7) (v := .ref (a 1)) (C := RX8) (T := TX8) (N := 17) hx hb hts hi_X8_at_X8 hown hK.1 hP 0 rfl rfl 0 (by decide) (hts _ k_X8_at_1) (fun _ h9 => h9) rfl dX8_at_10 ?_
    refine lv_iload_n hx hb dX8_at_13 rfl (lv_at hl 1 rfl) ?_
    obtain ⟨hi, h⟩ := h
    refine x_iald (v := rowSizes r.toNatClampNeg) hx hb hK hP 1 rfl hi rfl dX8_at_14 ?_
    refine lv_if_ge (tgt := 24) hx hb dX8_at_15 (by decide) (fun hc => ?_) (fun hc => ?_)
    · have h := h.1 hc
      refine lv_iload_n hx hb dX8_at_24 rfl (lv_at hl 2 rfl) ?_
      refine lv_i2l hx hb dX8_at_25 rfl ?_
      refine lv_lconst (v := (0)) hx hb dX8_at_26 (by decide) ?_
      refine lv_aload_n hx hb dX8_at_27 rfl (lv_at hl 0 rfl) ?_
      refine va_get (D := D) (ci := 7) (v := .ref (a 1)) (C := RX8) (T := TX8) (N := 17) hx hb hts hi_X8_at_X8 hown hK.1 hP 0 rfl rfl 0 (by decide) (hts _ k_X8_at_1) (fun _ h9 => h9) rfl dX8_at_28 ?_
      refine lv_iload_n hx hb dX8_at_31 rfl (lv_at hl 1 rfl) ?_
      obtain ⟨hi, h⟩ := h
      refine x_iald (v := rowSizes r.toNatClampNeg) hx hb hK hP 1 rfl hi rfl dX8_at_32 ?_
      refine lv_iconst (v := (1)) hx hb dX8_at_33 (by decide) ?_
      refine lv_isub hx hb dX8_at_34 ?_
      refine lv_i2l hx hb dX8_at_35 rfl ?_
      refine rd_callz (va_runS (As := [.long i.toInt64, .long (0 : Int64), .long (((rowSizes r.toNatClampNeg) - (1 : Int32)).toInt64)]) (rest := []) ⟨hx, hb, hml, hown, hts⟩ (c_X8_in l D ca   i.toInt64 (0 : Int64) (((rowSizes r.toNatClampNeg) - (1 : Int32)).toInt64) _ h) (va_cwS 3 hts gX8_at_X8_in rfl rfl rfl (by decide +kernel) ⟨Nat.le_of_ble_eq_true rfl, Nat.le_of_ble_eq_true rfl⟩) (PcX.preS hK (fun zk zq zh => by simp at zh)) rfl rfl hl.1 rfl (lv_room (Nat.le_of_ble_eq_true rfl)) dX8_at_36 ⟨Nat.le_of_ble_eq_true rfl, Nat.le_of_ble_eq_true rfl⟩) (fun r2 h hz_r2 => ?_)
      try dsimp only at h
      refine lv_if_eq (tgt := 60) hx hb dX8_at_39 (by decide) (fun hc => ?_) (fun hc => ?_)
      · have h := h.1 hc
        refine lv_aload_n hx hb dX8_at_60 rfl (lv_at hl 0 rfl) ?_
        refine lv_iconst (v := (2)) hx hb dX8_at_61 (by decide) ?_
        refine wr_calli (ws1 := fun zu => W_X8 ca a rowSizes rows textSizes texts now keeps kept asked upper lower zu.1 zu.2 read at_ costs ways reach) (wr := ([] : List Nat).filterMap (fun zi => (W_X8 ca a rowSizes rows textSizes texts now keeps kept asked upper lower finding findings read at_ costs ways reach : va_W)[zi]?)) (n := 13) (va_runV (As := [.int (2 : Int32)]) (rest := []) ⟨hx, hb, hml, hown, hts⟩ (c_X8_found l D ca a rowSizes rows textSizes texts now keeps kept asked upper lower finding findings read at_ costs ways reach (2 : Int32) _ (hD.subM [0, 1, 2, 3, 4, 5, 6, 7, 8, 9, 10, 11, 12] (by decide) rfl) h) (cwV 1 hts gX8_at_X8_found rfl rfl rfl (by decide +kernel) ⟨Nat.le_of_ble_eq_true rfl, Nat.le_of_ble_eq_true rfl⟩) (PcX.preV (q := (RX8, TX8, 17)) (ci := 7) (q0 := 0) hK hP rfl rfl hP) rfl rfl hl.1 rfl (lv_room (Nat.le_of_ble_eq_true rfl)) dX8_at_62 ⟨Nat.le_of_ble_eq_true rfl, Nat.le_of_ble_eq_true rfl⟩) hP hD hS [0, 1, 2, 3, 4, 5, 6, 7, 8, 9, 10, 11, 12] [] rfl (fun _ => rfl) rfl (fun _ => rfl) (fun _ => rfl) (fun _ => rfl) (by decide +kernel) (by decide +kernel) (fun r3 zu H locs h hP hD hS => ?_)
        obtain ⟨finding_4, findings_5⟩ := zu
        have hP : va_P D vwCl (W_X8 ca a rowSizes rows textSizes texts now keeps kept asked upper lower finding_4 findings_5 read at_ costs ways reach) H := hP
        have hD : va_D _ (W_X8 ca a rowSizes rows textSizes texts now keeps kept asked upper lower finding_4 findings_5 read at_ costs ways reach) := hD
        try dsimp only at h
        exact W.iret (v := r3) hx hb hr (fun zt ht hW => ⟨⟨r3, (asked, finding_4, findings_5), rfl, h, by rw [ht]; exact hP⟩, hS.F ht⟩) hS.2.2 dX8_at_65
      · have h := h.2 hc
        refine lv_aload_n hx hb dX8_at_42 rfl (lv_at hl 0 rfl) ?_
        refine lv_aload_n hx hb dX8_at_43 rfl (lv_at hl 0 rfl) ?_
        refine va_get (D := D) (ci := 7) (v := .ref (a 2)) (C := RX8) (T := TX8) (N := 17) hx hb hts hi_X8_at_X8 hown hK.1 hP 0 rfl rfl 1 (by decide) (hts _ k_X8_at_2) (fun _ h9 => h9) rfl dX8_at_44 ?_
        refine lv_bipush (v := (40)) hx hb dX8_at_47 (by decide) ?_
        refine lv_iload_n hx hb dX8_at_49 rfl (lv_at hl 1 rfl) ?_
        refine lv_imul hx hb dX8_at_50 ?_
        refine lv_iload_n hx hb dX8_at_51 rfl (lv_at hl 2 rfl) ?_
        refine lv_iadd hx hb dX8_at_52 ?_
        obtain ⟨hi, h⟩ := h
        refine x_iald (v := rows (((40 : Int32) * r) + i).toNatClampNeg) hx hb hK hP 2 rfl hi rfl dX8_at_53 ?_
        refine wr_calli (ws1 := fun zu => W_X8 ca a rowSizes rows textSizes texts now keeps kept zu upper lower finding findings read at_ costs ways reach) (wr := ([] : List Nat).filterMap (fun zi => (W_X8 ca a rowSizes rows textSizes texts now keeps kept asked upper lower finding findings read at_ costs ways reach : va_W)[zi]?)) (n := 13) (va_runV (As := [.int (rows (((40 : Int32) * r) + i).toNatClampNeg)]) (rest := []) ⟨hx, hb, hml, hown, hts⟩ (c_X8_tell l D ca a rowSizes rows textSizes texts now keeps kept asked upper lower finding findings read at_ costs ways reach (rows (((40 : Int32) * r) + i).toNatClampNeg) _ (hD.subM [0, 1, 2, 3, 4, 5, 6, 7, 8, 9, 10, 11, 12] (by decide) rfl) h) (cwV 1 hts gX8_at_X8_tell rfl rfl rfl (by decide +kernel) ⟨Nat.le_of_ble_eq_true rfl, Nat.le_of_ble_eq_true rfl⟩) (PcX.preV (q := (RX8, TX8, 17)) (ci := 7) (q0 := 0) hK hP rfl rfl hP) rfl rfl hl.1 rfl (lv_room (Nat.le_of_ble_eq_true rfl)) dX8_at_54 ⟨Nat.le_of_ble_eq_true rfl, Nat.le_of_ble_eq_true rfl⟩) hP hD hS [0, 1, 2, 3, 4, 5, 6, 7, 8, 9, 10, 11, 12] [] rfl (fun _ => rfl) rfl (fun _ => rfl) (fun _ => rfl) (fun _ => rfl) (by decide +kernel) (by decide +kernel) (fun r6 zu H locs h hP hD hS => ?_)
        obtain ⟨asked_7, rfl⟩ : ∃ zz, zz = zu := ⟨zu, rfl⟩
        have hP : va_P D vwCl (W_X8 ca a rowSizes rows textSizes texts now keeps kept asked_7 upper lower finding findings read at_ costs ways reach) H := hP
        have hD : va_D _ (W_X8 ca a rowSizes rows textSizes texts now keeps kept asked_7 upper lower finding findings read at_ costs ways reach) := hD
        try dsimp only at h
        refine lv_goto (tgt := 65) hx hb dX8_at_57 (by decide) ?_
        exact W.iret (v := r6) hx hb hr (fun zt ht hW => ⟨⟨r6, (asked_7, finding, findings), rfl, h, by rw [ht]; exact hP⟩, hS.F ht⟩) hS.2.2 dX8_at_65
    · have h := h.2 hc
      refine lv_aload_n hx hb dX8_at_18 rfl (lv_at hl 0 rfl) ?_
      refine lv_iconst (v := (1)) hx hb dX8_at_19 (by decide) ?_
      refine wr_calli (ws1 := fun zu => W_X8 ca a rowSizes rows textSizes texts now keeps kept asked upper lower zu.1 zu.2 read at_ costs ways reach) (wr := ([] : List Nat).filterMap (fun zi => (W_X8 ca a rowSizes rows textSizes texts now keeps kept asked upper lower finding findings read at_ costs ways reach : va_W)[zi]?)) (n := 13) (va_runV (As := [.int (1 : Int32)]) (rest := []) ⟨hx, hb, hml, hown, hts⟩ (c_X8_found l D ca a rowSizes rows textSizes texts now keeps kept asked upper lower finding findings read at_ costs ways reach (1 : Int32) _ (hD.subM [0, 1, 2, 3, 4, 5, 6, 7, 8, 9, 10, 11, 12] (by decide) rfl) h) (cwV 1 hts gX8_at_X8_found rfl rfl rfl (by decide +kernel) ⟨Nat.le_of_ble_eq_true rfl, Nat.le_of_ble_eq_true rfl⟩) (PcX.preV (q := (RX8, TX8, 17)) (ci := 7) (q0 := 0) hK hP rfl rfl hP) rfl rfl hl.1 rfl (lv_room (Nat.le_of_ble_eq_true rfl)) dX8_at_20 ⟨Nat.le_of_ble_eq_true rfl, Nat.le_of_ble_eq_true rfl⟩) hP hD hS [0, 1, 2, 3, 4, 5, 6, 7, 8, 9, 10, 11, 12] [] rfl (fun _ => rfl) rfl (fun _ => rfl) (fun _ => rfl) (fun _ => rfl) (by decide +kernel) (by decide +kernel) (fun r8 zu H locs h hP hD hS => ?_)
      obtain ⟨finding_9, findings_10⟩ := zu
      have hP : va_P D vwCl (W_X8 ca a rowSizes rows textSizes texts now keeps kept asked upper lower finding_9 findings_10 read at_ costs ways reach) H := hP
      have hD : va_D _ (W_X8 ca a rowSizes rows textSizes texts now keeps kept asked upper lower finding_9 findings_10 read at_ costs ways reach) := hD
      try dsimp only at h
      exact W.iret (v := r8) hx hb hr (fun zt ht hW => ⟨⟨r8, (asked, finding_9, findings_10), rfl, h, by rw [ht]; exact hP⟩, hS.F ht⟩) hS.2.2 dX8_at_23
  · have h := h.2 hc
    refine lv_iconst (v := (-1)) hx hb dX8_at_7 (by decide) ?_
    exact W.iret (v := (-1 : Int32)) hx hb hr (fun zt ht hW => ⟨⟨(-1 : Int32), (asked, finding, findings), rfl, h, by rw [ht]; exact hP⟩, hS.F ht⟩) hS.2.2 dX8_at_8

-- IronedQuarrelsModel.tear(I)I
def wp_X8_tear (rowSizes : Nat → Int32) (finding : Int32) (findings : Nat → Int32) (r : Int32) (post : Int32 → (Nat → Int32) → (Int32) → (Nat → Int32) → Prop) : Prop :=
  wp_X8_isRow r (fun r1 => (¬ r1 = 0 → (vp_in r 6 ∧ (0 ≤ (rowSizes r.toNatClampNeg) → (vp_in r 6 ∧ post (1 : Int32) (upd rowSizes (r.toNatClampNeg) (-1 : Int32)) finding findings)) ∧ (¬ 0 ≤ (rowSizes r.toNatClampNeg) → (wp_X8_found findings (1 : Int32) (fun r2 finding_3 findings_4 => post r2 rowSizes finding_3 findings_4))))) ∧ (r1 = 0 → (post (-1 : Int32) rowSizes finding findings)))
def rm_X8_tear : Room := { frames := 2, cells := 0, slots := 0, locals := 45 }
theorem k_X8_tear_1 : Cond.fieldLink RX8 7 "IronedQuarrelsModel" "rowSizes" "[I" ∈ wsX8_tear := List.mem_of_getElem? (i := 1) (by decide +kernel)
theorem hi_X8_tear_X8 : ∀ w ∈ wsX80, w ∈ wsX8_tear := fun w h => List.mem_cons_of_mem _ (List.mem_append_right _ h)
set_option maxHeartbeats 4000000 in
set_option maxRecDepth 100000 in
theorem c_X8_tear (l : Launch) (D : va_G) (ca : Nat → ClassId) (a : Nat → Nat) (rowSizes : Nat → Int32) (rows : Nat → Int32) (textSizes : Nat → Int32) (texts : Nat → Int32) (now : Nat → Int32) (keeps : Nat → Int32) (kept : Nat → Int32) (asked : Int32) (upper : Int64) (lower : Int64) (finding : Int32) (findings : Nat → Int32) (read : Nat → Int32) (at_ : Int32) (costs : Nat → Int32) (ways : Nat → Int64) (reach : Nat → Int32) (r : Int32) (post : Int32 → (Nat → Int32) → (Int32) → (Nat → Int32) → Prop) (hd : va_D (fun _ => True) (W_X8 ca a rowSizes rows textSizes texts now keeps kept asked upper lower finding findings read at_ costs ways reach)) (h : wp_X8_tear rowSizes finding findings r post) : Met l yX8_tear wsX8_tear rm_X8_tear (PcX D ca [.ref (a 0), .int r] (W_X8 ca a rowSizes rows textSizes texts now keeps kept asked upper lower finding findings read at_ costs ways reach)) (wrI (S := (Nat → Int32) × (Int32) × (Nat → Int32)) D (W_X8 ca a rowSizes rows textSizes texts now keeps kept asked upper lower finding findings read at_ costs ways reach) (fun zu => W_X8 ca a zu.1 rows textSizes texts now keeps kept asked upper lower zu.2.1 zu.2.2 read at_ costs ways reach) (fun zr zu => post zr zu.1 zu.2.1 zu.2.2)) 0 0 (adr (W_X8 ca a rowSizes rows textSizes texts now keeps kept asked upper lower finding findings read at_ costs ways reach)) := by
  refine Met.ofW (cc := cX8_tear) (maxL := 2) (ret := (some .int)) (by decide) rfl ?_
  intro zp ze zs zm za zb zt zc z1 B hml hv
  obtain ⟨rfl, hP, hK⟩ := hv
  have hx := B.exec
  have hb := B.bytes
  have hr := B.returns
  have hts := atoms_spec (ws := wsX8_tear) B.pre
  have hown : zs.vm.findClass RX8 = some zm.cls := findClass_of_methodNamed B.named
  have hlocks := B.notSynchronized
  have hD : va_D (adr (W_X8 ca a rowSizes rows textSizes texts now keeps kept asked upper lower finding findings read at_ costs ways reach)) (W_X8 ca a rowSizes rows textSizes texts now keeps kept asked upper lower finding findings read at_ costs ways reach) := hd.adr
  have hS : va_S (adr (W_X8 ca a rowSizes rows textSizes texts now keeps kept asked upper lower finding findings read at_ costs ways reach)) zs.heap zs.heap [] := va_S.rf
  have hl := lv_entry ([.ref (a 0), .int r]) (n := 2) (Nat.le_of_ble_eq_true rfl)
  rw [lg_entry_eq]
  generalize (lg_sl ([.ref (a 0), .int r]) ++ List.replicate (2 - (lg_sl ([.ref (a 0), .int r])).length) Slot.unset).toArray = ls at hl ⊢
  replace hl : lv_has ls 2 [(0, .ref (a 0)), (1, .int r)] := hl
  show W zp l ze rm_X8_tear zs zm ([.ref (a 0), .int r] : List Value).toArray zb zt zc zs.heap [] 0 0 (MQ zb (wrI (S := (Nat → Int32) × (Int32) × (Nat → Int32)) D (W_X8 ca a rowSizes rows textSizes texts now keeps kept asked upper lower finding findings read at_ costs ways reach) (fun zu => W_X8 ca a zu.1 rows textSizes texts now keeps kept asked upper lower zu.2.1 zu.2.2 read at_ costs ways reach) (fun zr zu => post zr zu.1 zu.2.1 zu.2.2)) ([.ref (a 0), .int r] : List Value).toArray zs 0 0 (adr (W_X8 ca a rowSizes rows textSizes texts now keeps kept asked upper lower finding findings read at_ costs ways reach))) (F0 zm 0 ls [])
  unfold wp_X8_tear at h
  refine lv_iload_n hx hb dX8_tear_0 rfl (lv_at hl 1 rfl) ?_
  refine rd_callz (va_runS (As := [.int r]) (rest := []) ⟨hx, hb, hml, hown, hts⟩ (c_X8_isRow l D ca   r _ h) (va_cwS 1 hts gX8_tear_X8_isRow rfl rfl rfl (by decide +kernel) ⟨Nat.le_of_ble_eq_true rfl, Nat.le_of_ble_eq_true rfl⟩) (PcX.preS hK (fun zk zq zh => by simp at zh)) rfl rfl hl.1 rfl (lv_room (Nat.le_of_ble_eq_true rfl)) dX8_tear_1 ⟨Nat.le_of_ble_eq_true rfl, Nat.le_of_ble_eq_true rfl⟩) (fun r1 h hz_r1 => ?_)
  try dsimp only at h
  refine lv_if_ne (tgt := 9) hx hb dX8_tear_4 (by decide) (fun hc => ?_) (fun hc => ?_)
  · have h := h.1 hc
    refine lv_aload_n hx hb dX8_tear_9 rfl (lv_at hl 0 rfl) ?_
    refine va_get (D := D) (ci := 7) (v := .ref (a 1)) (C := RX8) (T := TX8) (N := 17) hx hb hts hi_X8_tear_X8 hown hK.1 hP 0 rfl rfl 0 (by decide) (hts _ k_X8_tear_1) (fun _ h9 => h9) rfl dX8_tear_10 ?_
    refine lv_iload_n hx hb dX8_tear_13 rfl (lv_at hl 1 rfl) ?_
    obtain ⟨hi, h⟩ := h
    refine x_iald (v := rowSizes r.toNatClampNeg) hx hb hK hP 1 rfl hi rfl dX8_tear_14 ?_
    refine lv_if_ge (tgt := 24) hx hb dX8_tear_15 (by decide) (fun hc => ?_) (fun hc => ?_)
    · have h := h.1 hc
      refine lv_aload_n hx hb dX8_tear_24 rfl (lv_at hl 0 rfl) ?_
      refine va_get (D := D) (ci := 7) (v := .ref (a 1)) (C := RX8) (T := TX8) (N := 17) hx hb hts hi_X8_tear_X8 hown hK.1 hP 0 rfl rfl 0 (by decide) (hts _ k_X8_tear_1) (fun _ h9 => h9) rfl dX8_tear_25 ?_
      refine lv_iload_n hx hb dX8_tear_28 rfl (lv_at hl 1 rfl) ?_
      refine lv_iconst (v := (-1)) hx hb dX8_tear_29 (by decide) ?_
      obtain ⟨hi, h⟩ := h
      refine x_iast (ws' := W_X8 ca a (upd rowSizes (r.toNatClampNeg) (-1 : Int32)) rows textSizes texts now keeps kept asked upper lower finding findings read at_ costs ways reach) hx hb hK hP hD hS 1 rfl hi (k := (r.toNatClampNeg)) rfl rfl dX8_tear_30 (fun H locs hP hD hS => ?_)
      refine lv_iconst (v := (1)) hx hb dX8_tear_31 (by decide) ?_
      exact W.iret (v := (1 : Int32)) hx hb hr (fun zt ht hW => ⟨⟨(1 : Int32), (upd rowSizes (r.toNatClampNeg) (-1 : Int32), finding, findings), rfl, h, by rw [ht]; exact hP⟩, hS.F ht⟩) hS.2.2 dX8_tear_32
    · have h := h.2 hc
      refine lv_aload_n hx hb dX8_tear_18 rfl (lv_at hl 0 rfl) ?_
      refine lv_iconst (v := (1)) hx hb dX8_tear_19 (by decide) ?_
      refine wr_calli (ws1 := fun zu => W_X8 ca a rowSizes rows textSizes texts now keeps kept asked upper lower zu.1 zu.2 read at_ costs ways reach) (wr := ([] : List Nat).filterMap (fun zi => (W_X8 ca a rowSizes rows textSizes texts now keeps kept asked upper lower finding findings read at_ costs ways reach : va_W)[zi]?)) (n := 13) (va_runV (As := [.int (1 : Int32)]) (rest := []) ⟨hx, hb, hml, hown, hts⟩ (c_X8_found l D ca a rowSizes rows textSizes texts now keeps kept asked upper lower finding findings read at_ costs ways reach (1 : Int32) _ (hD.subM [0, 1, 2, 3, 4, 5, 6, 7, 8, 9, 10, 11, 12] (by decide) rfl) h) (cwV 1 hts gX8_tear_X8_found rfl rfl rfl (by decide +kernel) ⟨Nat.le_of_ble_eq_true rfl, Nat.le_of_ble_eq_true rfl⟩) (PcX.preV (q := (RX8, TX8, 17)) (ci := 7) (q0 := 0) hK hP rfl rfl hP) rfl rfl hl.1 rfl (lv_room (Nat.le_of_ble_eq_true rfl)) dX8_tear_20 ⟨Nat.le_of_ble_eq_true rfl, Nat.le_of_ble_eq_true rfl⟩) hP hD hS [0, 1, 2, 3, 4, 5, 6, 7, 8, 9, 10, 11, 12] [] rfl (fun _ => rfl) rfl (fun _ => rfl) (fun _ => rfl) (fun _ => rfl) (by decide +kernel) (by decide +kernel) (fun r2 zu H locs h hP hD hS => ?_)
      obtain ⟨finding_3, findings_4⟩ := zu
      have hP : va_P D vwCl (W_X8 ca a rowSizes rows textSizes texts now keeps kept asked upper lower finding_3 findings_4 read at_ costs ways reach) H := hP
      have hD : va_D _ (W_X8 ca a rowSizes rows textSizes texts now keeps kept asked upper lower finding_3 findings_4 read at_ costs ways reach) := hD
      try dsimp only at h
      exact W.iret (v := r2) hx hb hr (fun zt ht hW => ⟨⟨r2, (rowSizes, finding_3, findings_4), rfl, h, by rw [ht]; exact hP⟩, hS.F ht⟩) hS.2.2 dX8_tear_23
  · have h := h.2 hc
    refine lv_iconst (v := (-1)) hx hb dX8_tear_7 (by decide) ?_
    exact W.iret (v := (-1 : Int32)) hx hb hr (fun zt ht hW => ⟨⟨(-1 : Int32), (rowSizes, finding, findings), rfl, h, by rw [ht]; exact hP⟩, hS.F ht⟩) hS.2.2 dX8_tear_8

-- IronedQuarrelsModel.copy(IIIII)I
def wb_X8_copy_45 (post : Int32 → (Nat → Int32) → (Int32) → (Nat → Int32) → Prop) (rows : Nat → Int32) (finding : Int32) (findings : Nat → Int32) : Prop :=
  wp_X8_found findings (1 : Int32) (fun r3 finding_4 findings_5 => post r3 rows finding_4 findings_5)
def wb_X8_copy_95 (post : Int32 → (Nat → Int32) → (Int32) → (Nat → Int32) → Prop) (rows : Nat → Int32) (finding : Int32) (findings : Nat → Int32) : Prop :=
  wp_X8_found findings (2 : Int32) (fun r6 finding_7 findings_8 => post r6 rows finding_7 findings_8)
def wb_X8_copy_129 (r : Int32) (i : Int32) (to : Int32) (j : Int32) (K104 : (Nat → Int32) → (Int32) → (Nat → Int32) → (Int32) → Prop) (rows : Nat → Int32) (finding : Int32) (findings : Nat → Int32) (x6 : Int32) (s0 : Int32) : Prop :=
  vp_in ((((40 : Int32) * r) + i) + s0) 240 ∧ vp_in ((((40 : Int32) * to) + j) + s0) 240 ∧ K104 (upd rows (((((40 : Int32) * to) + j) + s0).toNatClampNeg) (rows ((((40 : Int32) * r) + i) + s0).toNatClampNeg)) finding findings (x6 + 1)
def wb_X8_copy_104 (r : Int32) (i : Int32) (to : Int32) (j : Int32) (n : Int32) (post : Int32 → (Nat → Int32) → (Int32) → (Nat → Int32) → Prop) (K104 : (Nat → Int32) → (Int32) → (Nat → Int32) → (Int32) → Prop) (rows : Nat → Int32) (finding : Int32) (findings : Nat → Int32) (x6 : Int32) : Prop :=
  (n ≤ x6 → (post (1 : Int32) rows finding findings)) ∧ (¬ n ≤ x6 → ((j ≤ i → (wb_X8_copy_129 r i to j K104 rows finding findings x6 x6)) ∧ (¬ j ≤ i → (wb_X8_copy_129 r i to j K104 rows finding findings x6 ((n - (1 : Int32)) - x6)))))
def wl_X8_copy_104 (r : Int32) (i : Int32) (to : Int32) (j : Int32) (n : Int32) (post : Int32 → (Nat → Int32) → (Int32) → (Nat → Int32) → Prop) : Nat → (Nat → Int32) → (Int32) → (Nat → Int32) → (Int32) → Prop
  | 0 => fun _ _ _ _ => False
  | zn + 1 => wb_X8_copy_104 r i to j n post (wl_X8_copy_104 r i to j n post zn)
def wp_X8_copy (rowSizes : Nat → Int32) (rows : Nat → Int32) (finding : Int32) (findings : Nat → Int32) (r : Int32) (i : Int32) (to : Int32) (j : Int32) (n : Int32) (post : Int32 → (Nat → Int32) → (Int32) → (Nat → Int32) → Prop) : Prop :=
  wp_X8_isRow r (fun r1 => (r1 = 0 → (post (-1 : Int32) rows finding findings)) ∧ (¬ r1 = 0 → (wp_X8_isRow to (fun r2 => (¬ r2 = 0 → ((0 ≤ n → (vp_in r 6 ∧ ((rowSizes r.toNatClampNeg) < 0 → (wb_X8_copy_45 post rows finding findings)) ∧ (¬ (rowSizes r.toNatClampNeg) < 0 → (vp_in to 6 ∧ (0 ≤ (rowSizes to.toNatClampNeg) → ((i < 0 → (wb_X8_copy_95 post rows finding findings)) ∧ (¬ i < 0 → ((j < 0 → (wb_X8_copy_95 post rows finding findings)) ∧ (¬ j < 0 → (vp_in r 6 ∧ (0 < (lg_cmp (i.toInt64 + n.toInt64) ((rowSizes r.toNatClampNeg).toInt64)) → (wb_X8_copy_95 post rows finding findings)) ∧ (¬ 0 < (lg_cmp (i.toInt64 + n.toInt64) ((rowSizes r.toNatClampNeg).toInt64)) → (vp_in to 6 ∧ ((lg_cmp (j.toInt64 + n.toInt64) ((rowSizes to.toNatClampNeg).toInt64)) ≤ 0 → (∃ zn, wl_X8_copy_104 r i to j n post zn rows finding findings (0 : Int32))) ∧ (¬ (lg_cmp (j.toInt64 + n.toInt64) ((rowSizes to.toNatClampNeg).toInt64)) ≤ 0 → (wb_X8_copy_95 post rows finding findings)))))))))) ∧ (¬ 0 ≤ (rowSizes to.toNatClampNeg) → (wb_X8_copy_45 post rows finding findings)))))) ∧ (¬ 0 ≤ n → (wp_X8_found findings (5 : Int32) (fun r9 finding_10 findings_11 => post r9 rows finding_10 findings_11))))) ∧ (r2 = 0 → (post (-1 : Int32) rows finding findings))))))
def rm_X8_copy : Room := { frames := 2, cells := 0, slots := 0, locals := 45 }
theorem k_X8_copy_1 : Cond.fieldLink RX8 7 "IronedQuarrelsModel" "rowSizes" "[I" ∈ wsX8_copy := List.mem_of_getElem? (i := 1) (by decide +kernel)
theorem k_X8_copy_2 : Cond.fieldLink RX8 13 "IronedQuarrelsModel" "rows" "[I" ∈ wsX8_copy := List.mem_of_getElem? (i := 2) (by decide +kernel)
theorem hi_X8_copy_X8 : ∀ w ∈ wsX80, w ∈ wsX8_copy := fun w h => List.mem_cons_of_mem _ (List.mem_append_right _ h)
set_option maxHeartbeats 4000000 in
set_option maxRecDepth 100000 in
theorem c_X8_copy (l : Launch) (D : va_G) (ca : Nat → ClassId) (a : Nat → Nat) (rowSizes : Nat → Int32) (rows : Nat → Int32) (textSizes : Nat → Int32) (texts : Nat → Int32) (now : Nat → Int32) (keeps : Nat → Int32) (kept : Nat → Int32) (asked : Int32) (upper : Int64) (lower : Int64) (finding : Int32) (findings : Nat → Int32) (read : Nat → Int32) (at_ : Int32) (costs : Nat → Int32) (ways : Nat → Int64) (reach : Nat → Int32) (r : Int32) (i : Int32) (to : Int32) (j : Int32) (n : Int32) (post : Int32 → (Nat → Int32) → (Int32) → (Nat → Int32) → Prop) (hd : va_D (fun _ => True) (W_X8 ca a rowSizes rows textSizes texts now keeps kept asked upper lower finding findings read at_ costs ways reach)) (h : wp_X8_copy rowSizes rows finding findings r i to j n post) : Met l yX8_copy wsX8_copy rm_X8_copy (PcX D ca [.ref (a 0), .int r, .int i, .int to, .int j, .int n] (W_X8 ca a rowSizes rows textSizes texts now keeps kept asked upper lower finding findings read at_ costs ways reach)) (wrI (S := (Nat → Int32) × (Int32) × (Nat → Int32)) D (W_X8 ca a rowSizes rows textSizes texts now keeps kept asked upper lower finding findings read at_ costs ways reach) (fun zu => W_X8 ca a rowSizes zu.1 textSizes texts now keeps kept asked upper lower zu.2.1 zu.2.2 read at_ costs ways reach) (fun zr zu => post zr zu.1 zu.2.1 zu.2.2)) 0 0 (adr (W_X8 ca a rowSizes rows textSizes texts now keeps kept asked upper lower finding findings read at_ costs ways reach)) := by
  refine Met.ofW (cc := cX8_copy) (maxL := 8) (ret := (some .int)) (by decide) rfl ?_
  intro zp ze zs zm za zb zt zc z1 B hml hv
  obtain ⟨rfl, hP, hK⟩ := hv
  have hx := B.exec
  have hb := B.bytes
  have hr := B.returns
  have hts := atoms_spec (ws := wsX8_copy) B.pre
  have hown : zs.vm.findClass RX8 = some zm.cls := findClass_of_methodNamed B.named
  have hlocks := B.notSynchronized
  have hD : va_D (adr (W_X8 ca a rowSizes rows textSizes texts now keeps kept asked upper lower finding findings read at_ costs ways reach)) (W_X8 ca a rowSizes rows textSizes texts now keeps kept asked upper lower finding findings read at_ costs ways reach) := hd.adr
  have hS : va_S (adr (W_X8 ca a rowSizes rows textSizes texts now keeps kept asked upper lower finding findings read at_ costs ways reach)) zs.heap zs.heap [] := va_S.rf
  have hl := lv_entry ([.ref (a 0), .int r, .int i, .int to, .int j, .int n]) (n := 8) (Nat.le_of_ble_eq_true rfl)
  rw [lg_entry_eq]
  generalize (lg_sl ([.ref (a 0), .int r, .int i, .int to, .int j, .int n]) ++ List.replicate (8 - (lg_sl ([.ref (a 0), .int r, .int i, .int to, .int j, .int n])).length) Slot.unset).toArray = ls at hl ⊢
  replace hl : lv_has ls 8 [(0, .ref (a 0)), (1, .int r), (2, .int i), (3, .int to), (4, .int j), (5, .int n)] := hl
  show W zp l ze rm_X8_copy zs zm ([.ref (a 0), .int r, .int i, .int to, .int j, .int n] : List Value).toArray zb zt zc zs.heap [] 0 0 (MQ zb (wrI (S := (Nat → Int32) × (Int32) × (Nat → Int32)) D (W_X8 ca a rowSizes rows textSizes texts now keeps kept asked upper lower finding findings read at_ costs ways reach) (fun zu => W_X8 ca a rowSizes zu.1 textSizes texts now keeps kept asked upper lower zu.2.1 zu.2.2 read at_ costs ways reach) (fun zr zu => post zr zu.1 zu.2.1 zu.2.2)) ([.ref (a 0), .int r, .int i, .int to, .int j, .int n] : List Value).toArray zs 0 0 (adr (W_X8 ca a rowSizes rows textSizes texts now keeps kept asked upper lower finding findings read at_ costs ways reach))) (F0 zm 0 ls [])
  have w_45 : ∀ (rows : Nat → Int32) (finding : Int32) (findings : Nat → Int32), wb_X8_copy_45 post rows finding findings → ∀ (H : Heap) (locs : List Loc), va_P D vwCl (W_X8 ca a rowSizes rows textSizes texts now keeps kept asked upper lower finding findings read at_ costs ways reach) H → va_D (adr (W_X8 ca a rowSizes rows textSizes texts now keeps kept asked upper lower finding findings read at_ costs ways reach)) (W_X8 ca a rowSizes rows textSizes texts now keeps kept asked upper lower finding findings read at_ costs ways reach) → va_S (adr (W_X8 ca a rowSizes rows textSizes texts now keeps kept asked upper lower finding findings read at_ costs ways reach)) zs.heap H locs → ∀ ls : Array Slot, lv_has ls 8 [(0, .ref (a 0))] → W zp l ze rm_X8_copy zs zm ([.ref (a 0), .int r, .int i, .int to, .int j, .int n] : List Value).toArray zb zt zc H locs 0 0 (MQ zb (wrI (S := (Nat → Int32) × (Int32) × (Nat → Int32)) D (W_X8 ca a rowSizes rows textSizes texts now keeps kept asked upper lower finding findings read at_ costs ways reach) (fun zu => W_X8 ca a rowSizes zu.1 textSizes texts now keeps kept asked upper lower zu.2.1 zu.2.2 read at_ costs ways reach) (fun zr zu => post zr zu.1 zu.2.1 zu.2.2)) ([.ref (a 0), .int r, .int i, .int to, .int j, .int n] : List Value).toArray zs 0 0 (adr (W_X8 ca a rowSizes rows textSizes texts now keeps kept asked upper lower finding findings read at_ costs ways reach))) (F0 zm 45 ls []) := by
    intro rows finding findings h H locs hP hD hS ls hl
    unfold wb_X8_copy_45 at h
    refine lv_aload_n hx hb dX8_copy_45 rfl (lv_at hl 0 rfl) ?_
    refine lv_iconst (v := (1)) hx hb dX8_copy_46 (by decide) ?_
    refine wr_calli (ws1 := fun zu => W_X8 ca a rowSizes rows textSizes texts now keeps kept asked upper lower zu.1 zu.2 read at_ costs ways reach) (wr := ([] : List Nat).filterMap (fun zi => (W_X8 ca a rowSizes rows textSizes texts now keeps kept asked upper lower finding findings read at_ costs ways reach : va_W)[zi]?)) (n := 13) (va_runV (As := [.int (1 : Int32)]) (rest := []) ⟨hx, hb, hml, hown, hts⟩ (c_X8_found l D ca a rowSizes rows textSizes texts now keeps kept asked upper lower finding findings read at_ costs ways reach (1 : Int32) _ (hD.subM [0, 1, 2, 3, 4, 5, 6, 7, 8, 9, 10, 11, 12] (by decide) rfl) h) (cwV 1 hts gX8_copy_X8_found rfl rfl rfl (by decide +kernel) ⟨Nat.le_of_ble_eq_true rfl, Nat.le_of_ble_eq_true rfl⟩) (PcX.preV (q := (RX8, TX8, 17)) (ci := 7) (q0 := 0) hK hP rfl rfl hP) rfl rfl hl.1 rfl (lv_room (Nat.le_of_ble_eq_true rfl)) dX8_copy_47 ⟨Nat.le_of_ble_eq_true rfl, Nat.le_of_ble_eq_true rfl⟩) hP hD hS [0, 1, 2, 3, 4, 5, 6, 7, 8, 9, 10, 11, 12] [] rfl (fun _ => rfl) rfl (fun _ => rfl) (fun _ => rfl) (fun _ => rfl) (by decide +kernel) (by decide +kernel) (fun r3 zu H locs h hP hD hS => ?_)
    obtain ⟨finding_4, findings_5⟩ := zu
    have hP : va_P D vwCl (W_X8 ca a rowSizes rows textSizes texts now keeps kept asked upper lower finding_4 findings_5 read at_ costs ways reach) H := hP
    have hD : va_D _ (W_X8 ca a rowSizes rows textSizes texts now keeps kept asked upper lower finding_4 findings_5 read at_ costs ways reach) := hD
    try dsimp only at h
    exact W.iret (v := r3) hx hb hr (fun zt ht hW => ⟨⟨r3, (rows, finding_4, findings_5), rfl, h, by rw [ht]; exact hP⟩, hS.F ht⟩) hS.2.2 dX8_copy_50
  have w_95 : ∀ (rows : Nat → Int32) (finding : Int32) (findings : Nat → Int32), wb_X8_copy_95 post rows finding findings → ∀ (H : Heap) (locs : List Loc), va_P D vwCl (W_X8 ca a rowSizes rows textSizes texts now keeps kept asked upper lower finding findings read at_ costs ways reach) H → va_D (adr (W_X8 ca a rowSizes rows textSizes texts now keeps kept asked upper lower finding findings read at_ costs ways reach)) (W_X8 ca a rowSizes rows textSizes texts now keeps kept asked upper lower finding findings read at_ costs ways reach) → va_S (adr (W_X8 ca a rowSizes rows textSizes texts now keeps kept asked upper lower finding findings read at_ costs ways reach)) zs.heap H locs → ∀ ls : Array Slot, lv_has ls 8 [(0, .ref (a 0))] → W zp l ze rm_X8_copy zs zm ([.ref (a 0), .int r, .int i, .int to, .int j, .int n] : List Value).toArray zb zt zc H locs 0 0 (MQ zb (wrI (S := (Nat → Int32) × (Int32) × (Nat → Int32)) D (W_X8 ca a rowSizes rows textSizes texts now keeps kept asked upper lower finding findings read at_ costs ways reach) (fun zu => W_X8 ca a rowSizes zu.1 textSizes texts now keeps kept asked upper lower zu.2.1 zu.2.2 read at_ costs ways reach) (fun zr zu => post zr zu.1 zu.2.1 zu.2.2)) ([.ref (a 0), .int r, .int i, .int to, .int j, .int n] : List Value).toArray zs 0 0 (adr (W_X8 ca a rowSizes rows textSizes texts now keeps kept asked upper lower finding findings read at_ costs ways reach))) (F0 zm 95 ls []) := by
    intro rows finding findings h H locs hP hD hS ls hl
    unfold wb_X8_copy_95 at h
    refine lv_aload_n hx hb dX8_copy_95 rfl (lv_at hl 0 rfl) ?_
    refine lv_iconst (v := (2)) hx hb dX8_copy_96 (by decide) ?_
    refine wr_calli (ws1 := fun zu => W_X8 ca a rowSizes rows textSizes texts now keeps kept asked upper lower zu.1 zu.2 read at_ costs ways reach) (wr := ([] : List Nat).filterMap (fun zi => (W_X8 ca a rowSizes rows textSizes texts now keeps kept asked upper lower finding findings read at_ costs ways reach : va_W)[zi]?)) (n := 13) (va_runV (As := [.int (2 : Int32)]) (rest := []) ⟨hx, hb, hml, hown, hts⟩ (c_X8_found l D ca a rowSizes rows textSizes texts now keeps kept asked upper lower finding findings read at_ costs ways reach (2 : Int32) _ (hD.subM [0, 1, 2, 3, 4, 5, 6, 7, 8, 9, 10, 11, 12] (by decide) rfl) h) (cwV 1 hts gX8_copy_X8_found rfl rfl rfl (by decide +kernel) ⟨Nat.le_of_ble_eq_true rfl, Nat.le_of_ble_eq_true rfl⟩) (PcX.preV (q := (RX8, TX8, 17)) (ci := 7) (q0 := 0) hK hP rfl rfl hP) rfl rfl hl.1 rfl (lv_room (Nat.le_of_ble_eq_true rfl)) dX8_copy_97 ⟨Nat.le_of_ble_eq_true rfl, Nat.le_of_ble_eq_true rfl⟩) hP hD hS [0, 1, 2, 3, 4, 5, 6, 7, 8, 9, 10, 11, 12] [] rfl (fun _ => rfl) rfl (fun _ => rfl) (fun _ => rfl) (fun _ => rfl) (by decide +kernel) (by decide +kernel) (fun r6 zu H locs h hP hD hS => ?_)
    obtain ⟨finding_7, findings_8⟩ := zu
    have hP : va_P D vwCl (W_X8 ca a rowSizes rows textSizes texts now keeps kept asked upper lower finding_7 findings_8 read at_ costs ways reach) H := hP
    have hD : va_D _ (W_X8 ca a rowSizes rows textSizes texts now keeps kept asked upper lower finding_7 findings_8 read at_ costs ways reach) := hD
    try dsimp only at h
    exact W.iret (v := r6) hx hb hr (fun zt ht hW => ⟨⟨r6, (rows, finding_7, findings_8), rfl, h, by rw [ht]; exact hP⟩, hS.F ht⟩) hS.2.2 dX8_copy_100
  have w_129 : ∀ (K104 : (Nat → Int32) → (Int32) → (Nat → Int32) → (Int32) → Prop) (ih104 : ∀ (rows : Nat → Int32) (finding : Int32) (findings : Nat → Int32) (x6 : Int32), K104 rows finding findings x6 → ∀ (H : Heap) (locs : List Loc), va_P D vwCl (W_X8 ca a rowSizes rows textSizes texts now keeps kept asked upper lower finding findings read at_ costs ways reach) H → va_D (adr (W_X8 ca a rowSizes rows textSizes texts now keeps kept asked upper lower finding findings read at_ costs ways reach)) (W_X8 ca a rowSizes rows textSizes texts now keeps kept asked upper lower finding findings read at_ costs ways reach) → va_S (adr (W_X8 ca a rowSizes rows textSizes texts now keeps kept asked upper lower finding findings read at_ costs ways reach)) zs.heap H locs → ∀ ls : Array Slot, lv_has ls 8 [(0, .ref (a 0)), (1, .int r), (2, .int i), (3, .int to), (4, .int j), (5, .int n), (6, .int x6)] → W zp l ze rm_X8_copy zs zm ([.ref (a 0), .int r, .int i, .int to, .int j, .int n] : List Value).toArray zb zt zc H locs 0 0 (MQ zb (wrI (S := (Nat → Int32) × (Int32) × (Nat → Int32)) D (W_X8 ca a rowSizes rows textSizes texts now keeps kept asked upper lower finding findings read at_ costs ways reach) (fun zu => W_X8 ca a rowSizes zu.1 textSizes texts now keeps kept asked upper lower zu.2.1 zu.2.2 read at_ costs ways reach) (fun zr zu => post zr zu.1 zu.2.1 zu.2.2)) ([.ref (a 0), .int r, .int i, .int to, .int j, .int n] : List Value).toArray zs 0 0 (adr (W_X8 ca a rowSizes rows textSizes texts now keeps kept asked upper lower finding findings read at_ costs ways reach))) (F0 zm 104 ls [])) (rows : Nat → Int32) (finding : Int32) (findings : Nat → Int32) (x6 : Int32) (s0 : Int32), wb_X8_copy_129 r i to j K104 rows finding findings x6 s0 → ∀ (H : Heap) (locs : List Loc), va_P D vwCl (W_X8 ca a rowSizes rows textSizes texts now keeps kept asked upper lower finding findings read at_ costs ways reach) H → va_D (adr (W_X8 ca a rowSizes rows textSizes texts now keeps kept asked upper lower finding findings read at_ costs ways reach)) (W_X8 ca a rowSizes rows textSizes texts now keeps kept asked upper lower finding findings read at_ costs ways reach) → va_S (adr (W_X8 ca a rowSizes rows textSizes texts now keeps kept asked upper lower finding findings read at_ costs ways reach)) zs.heap H locs → ∀ ls : Array Slot, lv_has ls 8 [(0, .ref (a 0)), (1, .int r), (2, .int i), (3, .int to), (4, .int j), (5, .int n), (6, .int x6)] → W zp l ze rm_X8_copy zs zm ([.ref (a 0), .int r, .int i, .int to, .int j, .int n] : List Value).toArray zb zt zc H locs 0 0 (MQ zb (wrI (S := (Nat → Int32) × (Int32) × (Nat → Int32)) D (W_X8 ca a rowSizes rows textSizes texts now keeps kept asked upper lower finding findings read at_ costs ways reach) (fun zu => W_X8 ca a rowSizes zu.1 textSizes texts now keeps kept asked upper lower zu.2.1 zu.2.2 read at_ costs ways reach) (fun zr zu => post zr zu.1 zu.2.1 zu.2.2)) ([.ref (a 0), .int r, .int i, .int to, .int j, .int n] : List Value).toArray zs 0 0 (adr (W_X8 ca a rowSizes rows textSizes texts now keeps kept asked upper lower finding findings read at_ costs ways reach))) (F0 zm 129 ls [.int s0]) := by
    intro K104 ih104 rows finding findings x6 s0 h H locs hP hD hS ls hl
    unfold wb_X8_copy_129 at h
    refine lv_istore (lv' := [(7, .int s0), (0, .ref (a 0)), (1, .int r), (2, .int i), (3, .int to), (4, .int j), (5, .int n), (6, .int x6)]) hx hb dX8_copy_129 hl (by decide) rfl (fun ls hl => ?_)
    refine lv_aload_n hx hb dX8_copy_131 rfl (lv_at hl 1 rfl) ?_
    refine va_get (D := D) (ci := 7) (v := .ref (a 2)) (C := RX8) (T := TX8) (N := 17) hx hb hts hi_X8_copy_X8 hown hK.1 hP 0 rfl rfl 1 (by decide) (hts _ k_X8_copy_2) (fun _ h9 => h9) rfl dX8_copy_132 ?_
    refine lv_bipush (v := (40)) hx hb dX8_copy_135 (by decide) ?_
    refine lv_iload_n hx hb dX8_copy_137 rfl (lv_at hl 4 rfl) ?_
    refine lv_imul hx hb dX8_copy_138 ?_
    refine lv_iload hx hb dX8_copy_139 (lv_at hl 5 rfl) ?_
    refine lv_iadd hx hb dX8_copy_141 ?_
    refine lv_iload hx hb dX8_copy_142 (lv_at hl 0 rfl) ?_
    refine lv_iadd hx hb dX8_copy_144 ?_
    refine lv_aload_n hx hb dX8_copy_145 rfl (lv_at hl 1 rfl) ?_
    refine va_get (D := D) (ci := 7) (v := .ref (a 2)) (C := RX8) (T := TX8) (N := 17) hx hb hts hi_X8_copy_X8 hown hK.1 hP 0 rfl rfl 1 (by decide) (hts _ k_X8_copy_2) (fun _ h9 => h9) rfl dX8_copy_146 ?_
    refine lv_bipush (v := (40)) hx hb dX8_copy_149 (by decide) ?_
    refine lv_iload_n hx hb dX8_copy_151 rfl (lv_at hl 2 rfl) ?_
    refine lv_imul hx hb dX8_copy_152 ?_
    refine lv_iload_n hx hb dX8_copy_153 rfl (lv_at hl 3 rfl) ?_
    refine lv_iadd hx hb dX8_copy_154 ?_
    refine lv_iload hx hb dX8_copy_155 (lv_at hl 0 rfl) ?_
    refine lv_iadd hx hb dX8_copy_157 ?_
    obtain ⟨hi, h⟩ := h
    refine x_iald (v := rows ((((40 : Int32) * r) + i) + s0).toNatClampNeg) hx hb hK hP 2 rfl hi rfl dX8_copy_158 ?_
    obtain ⟨hi, h⟩ := h
    refine x_iast (ws' := W_X8 ca a rowSizes (upd rows (((((40 : Int32) * to) + j) + s0).toNatClampNeg) (rows ((((40 : Int32) * r) + i) + s0).toNatClampNeg)) textSizes texts now keeps kept asked upper lower finding findings read at_ costs ways reach) hx hb hK hP hD hS 2 rfl hi (k := (((((40 : Int32) * to) + j) + s0).toNatClampNeg)) rfl rfl dX8_copy_159 (fun H locs hP hD hS => ?_)
    refine lv_iinc (v := x6 + 1) (lv' := [(6, .int (x6 + 1)), (7, .int s0), (0, .ref (a 0)), (1, .int r), (2, .int i), (3, .int to), (4, .int j), (5, .int n)]) hx hb dX8_copy_160 hl (k := 7) rfl rfl (by decide) rfl (fun ls hl => ?_)
    refine lv_goto (tgt := 104) hx hb dX8_copy_163 (by decide) ?_
    exact ih104 (upd rows (((((40 : Int32) * to) + j) + s0).toNatClampNeg) (rows ((((40 : Int32) * r) + i) + s0).toNatClampNeg)) finding findings (x6 + 1) h _ _ hP hD hS ls (lv_sub hl [2, 3, 4, 5, 6, 7, 0] rfl)
  have w_104 : ∀ (zn : Nat) (rows : Nat → Int32) (finding : Int32) (findings : Nat → Int32) (x6 : Int32), wl_X8_copy_104 r i to j n post zn rows finding findings x6 → ∀ (H : Heap) (locs : List Loc), va_P D vwCl (W_X8 ca a rowSizes rows textSizes texts now keeps kept asked upper lower finding findings read at_ costs ways reach) H → va_D (adr (W_X8 ca a rowSizes rows textSizes texts now keeps kept asked upper lower finding findings read at_ costs ways reach)) (W_X8 ca a rowSizes rows textSizes texts now keeps kept asked upper lower finding findings read at_ costs ways reach) → va_S (adr (W_X8 ca a rowSizes rows textSizes texts now keeps kept asked upper lower finding findings read at_ costs ways reach)) zs.heap H locs → ∀ ls : Array Slot, lv_has ls 8 [(0, .ref (a 0)), (1, .int r), (2, .int i), (3, .int to), (4, .int j), (5, .int n), (6, .int x6)] → W zp l ze rm_X8_copy zs zm ([.ref (a 0), .int r, .int i, .int to, .int j, .int n] : List Value).toArray zb zt zc H locs 0 0 (MQ zb (wrI (S := (Nat → Int32) × (Int32) × (Nat → Int32)) D (W_X8 ca a rowSizes rows textSizes texts now keeps kept asked upper lower finding findings read at_ costs ways reach) (fun zu => W_X8 ca a rowSizes zu.1 textSizes texts now keeps kept asked upper lower zu.2.1 zu.2.2 read at_ costs ways reach) (fun zr zu => post zr zu.1 zu.2.1 zu.2.2)) ([.ref (a 0), .int r, .int i, .int to, .int j, .int n] : List Value).toArray zs 0 0 (adr (W_X8 ca a rowSizes rows textSizes texts now keeps kept asked upper lower finding findings read at_ costs ways reach))) (F0 zm 104 ls []) := by
    intro zn
    induction zn with
    | zero => intro rows finding findings x6 h; exact h.elim
    | succ zn ih104 =>
      intro rows finding findings x6 h H locs hP hD hS ls hl
      replace h : wb_X8_copy_104 r i to j n post (wl_X8_copy_104 r i to j n post zn) rows finding findings x6 := h
      unfold wb_X8_copy_104 at h
      refine lv_iload hx hb dX8_copy_104 (lv_at hl 6 rfl) ?_
      refine lv_iload hx hb dX8_copy_106 (lv_at hl 5 rfl) ?_
      refine lv_icmp_ge (tgt := 166) hx hb dX8_copy_108 (by decide) (fun hc => ?_) (fun hc => ?_)
      · have h := h.1 hc
        refine lv_iconst (v := (1)) hx hb dX8_copy_166 (by decide) ?_
        exact W.iret (v := (1 : Int32)) hx hb hr (fun zt ht hW => ⟨⟨(1 : Int32), (rows, finding, findings), rfl, h, by rw [ht]; exact hP⟩, hS.F ht⟩) hS.2.2 dX8_copy_167
      · have h := h.2 hc
        refine lv_iload hx hb dX8_copy_111 (lv_at hl 4 rfl) ?_
        refine lv_iload_n hx hb dX8_copy_113 rfl (lv_at hl 2 rfl) ?_
        refine lv_icmp_le (tgt := 127) hx hb dX8_copy_114 (by decide) (fun hc => ?_) (fun hc => ?_)
        · have h := h.1 hc
          refine lv_iload hx hb dX8_copy_127 (lv_at hl 6 rfl) ?_
          exact w_129 _ ih104 rows finding findings x6 x6 h _ _ hP hD hS ls (lv_sub hl [0, 1, 2, 3, 4, 5, 6] rfl)
        · have h := h.2 hc
          refine lv_iload hx hb dX8_copy_117 (lv_at hl 5 rfl) ?_
          refine lv_iconst (v := (1)) hx hb dX8_copy_119 (by decide) ?_
          refine lv_isub hx hb dX8_copy_120 ?_
          refine lv_iload hx hb dX8_copy_121 (lv_at hl 6 rfl) ?_
          refine lv_isub hx hb dX8_copy_123 ?_
          refine lv_goto (tgt := 129) hx hb dX8_copy_124 (by decide) ?_
          exact w_129 _ ih104 rows finding findings x6 ((n - (1 : Int32)) - x6) h _ _ hP hD hS ls (lv_sub hl [0, 1, 2, 3, 4, 5, 6] rfl)
  unfold wp_X8_copy at h
  refine lv_iload_n hx hb dX8_copy_0 rfl (lv_at hl 1 rfl) ?_
  refine rd_callz (va_runS (As := [.int r]) (rest := []) ⟨hx, hb, hml, hown, hts⟩ (c_X8_isRow l D ca   r _ h) (va_cwS 1 hts gX8_copy_X8_isRow rfl rfl rfl (by decide +kernel) ⟨Nat.le_of_ble_eq_true rfl, Nat.le_of_ble_eq_true rfl⟩) (PcX.preS hK (fun zk zq zh => by simp at zh)) rfl rfl hl.1 rfl (lv_room (Nat.le_of_ble_eq_true rfl)) dX8_copy_1 ⟨Nat.le_of_ble_eq_true rfl, Nat.le_of_ble_eq_true rfl⟩) (fun r1 h hz_r1 => ?_)
  try dsimp only at h
  refine lv_if_eq (tgt := 14) hx hb dX8_copy_4 (by decide) (fun hc => ?_) (fun hc => ?_)
  · have h := h.1 hc
    refine lv_iconst (v := (-1)) hx hb dX8_copy_14 (by decide) ?_
    exact W.iret (v := (-1 : Int32)) hx hb hr (fun zt ht hW => ⟨⟨(-1 : Int32), (rows, finding, findings), rfl, h, by rw [ht]; exact hP⟩, hS.F ht⟩) hS.2.2 dX8_copy_15
  · have h := h.2 hc
    refine lv_iload_n hx hb dX8_copy_7 rfl (lv_at hl 3 rfl) ?_
    refine rd_callz (va_runS (As := [.int to]) (rest := []) ⟨hx, hb, hml, hown, hts⟩ (c_X8_isRow l D ca   to _ h) (va_cwS 1 hts gX8_copy_X8_isRow rfl rfl rfl (by decide +kernel) ⟨Nat.le_of_ble_eq_true rfl, Nat.le_of_ble_eq_true rfl⟩) (PcX.preS hK (fun zk zq zh => by simp at zh)) rfl rfl hl.1 rfl (lv_room (Nat.le_of_ble_eq_true rfl)) dX8_copy_8 ⟨Nat.le_of_ble_eq_true rfl, Nat.le_of_ble_eq_true rfl⟩) (fun r2 h hz_r2 => ?_)
    try dsimp only at h
    refine lv_if_ne (tgt := 16) hx hb dX8_copy_11 (by decide) (fun hc => ?_) (fun hc => ?_)
    · have h := h.1 hc
      refine lv_iload hx hb dX8_copy_16 (lv_at hl 5 rfl) ?_
      refine lv_if_ge (tgt := 27) hx hb dX8_copy_18 (by decide) (fun hc => ?_) (fun hc => ?_)
      · have h := h.1 hc
        refine lv_aload_n hx hb dX8_copy_27 rfl (lv_at hl 0 rfl) ?_
        refine va_get (D := D) (ci := 7) (v := .ref (a 1)) (C := RX8) (T := TX8) (N := 17) hx hb hts hi_X8_copy_X8 hown hK.1 hP 0 rfl rfl 0 (by decide) (hts _ k_X8_copy_1) (fun _ h9 => h9) rfl dX8_copy_28 ?_
        refine lv_iload_n hx hb dX8_copy_31 rfl (lv_at hl 1 rfl) ?_
        obtain ⟨hi, h⟩ := h
        refine x_iald (v := rowSizes r.toNatClampNeg) hx hb hK hP 1 rfl hi rfl dX8_copy_32 ?_
        refine lv_if_lt (tgt := 45) hx hb dX8_copy_33 (by decide) (fun hc => ?_) (fun hc => ?_)
        · have h := h.1 hc
          exact w_45  rows finding findings h _ _ hP hD hS ls (lv_sub hl [0] rfl)
        · have h := h.2 hc
          refine lv_aload_n hx hb dX8_copy_36 rfl (lv_at hl 0 rfl) ?_
          refine va_get (D := D) (ci := 7) (v := .ref (a 1)) (C := RX8) (T := TX8) (N := 17) hx hb hts hi_X8_copy_X8 hown hK.1 hP 0 rfl rfl 0 (by decide) (hts _ k_X8_copy_1) (fun _ h9 => h9) rfl dX8_copy_37 ?_
          refine lv_iload_n hx hb dX8_copy_40 rfl (lv_at hl 3 rfl) ?_
          obtain ⟨hi, h⟩ := h
          refine x_iald (v := rowSizes to.toNatClampNeg) hx hb hK hP 1 rfl hi rfl dX8_copy_41 ?_
          refine lv_if_ge (tgt := 51) hx hb dX8_copy_42 (by decide) (fun hc => ?_) (fun hc => ?_)
          · have h := h.1 hc
            refine lv_iload_n hx hb dX8_copy_51 rfl (lv_at hl 2 rfl) ?_
            refine lv_if_lt (tgt := 95) hx hb dX8_copy_52 (by decide) (fun hc => ?_) (fun hc => ?_)
            · have h := h.1 hc
              exact w_95  rows finding findings h _ _ hP hD hS ls (lv_sub hl [0] rfl)
            · have h := h.2 hc
              refine lv_iload hx hb dX8_copy_55 (lv_at hl 4 rfl) ?_
              refine lv_if_lt (tgt := 95) hx hb dX8_copy_57 (by decide) (fun hc => ?_) (fun hc => ?_)
              · have h := h.1 hc
                exact w_95  rows finding findings h _ _ hP hD hS ls (lv_sub hl [0] rfl)
              · have h := h.2 hc
                refine lv_iload_n hx hb dX8_copy_60 rfl (lv_at hl 2 rfl) ?_
                refine lv_i2l hx hb dX8_copy_61 rfl ?_
                refine lv_iload hx hb dX8_copy_62 (lv_at hl 5 rfl) ?_
                refine lv_i2l hx hb dX8_copy_64 rfl ?_
                refine lv_ladd hx hb dX8_copy_65 ?_
                refine lv_aload_n hx hb dX8_copy_66 rfl (lv_at hl 0 rfl) ?_
                refine va_get (D := D) (ci := 7) (v := .ref (a 1)) (C := RX8) (T := TX8) (N := 17) hx hb hts hi_X8_copy_X8 hown hK.1 hP 0 rfl rfl 0 (by decide) (hts _ k_X8_copy_1) (fun _ h9 => h9) rfl dX8_copy_67 ?_
                refine lv_iload_n hx hb dX8_copy_70 rfl (lv_at hl 1 rfl) ?_
                obtain ⟨hi, h⟩ := h
                refine x_iald (v := rowSizes r.toNatClampNeg) hx hb hK hP 1 rfl hi rfl dX8_copy_71 ?_
                refine lv_i2l hx hb dX8_copy_72 rfl ?_
                refine W.lcmp hx hb dX8_copy_73 ?_
                refine lv_if_gt (tgt := 95) hx hb dX8_copy_74 (by decide) (fun hc => ?_) (fun hc => ?_)
                · have h := h.1 hc
                  exact w_95  rows finding findings h _ _ hP hD hS ls (lv_sub hl [0] rfl)
                · have h := h.2 hc
                  refine lv_iload hx hb dX8_copy_77 (lv_at hl 4 rfl) ?_
                  refine lv_i2l hx hb dX8_copy_79 rfl ?_
                  refine lv_iload hx hb dX8_copy_80 (lv_at hl 5 rfl) ?_
                  refine lv_i2l hx hb dX8_copy_82 rfl ?_
                  refine lv_ladd hx hb dX8_copy_83 ?_
                  refine lv_aload_n hx hb dX8_copy_84 rfl (lv_at hl 0 rfl) ?_
                  refine va_get (D := D) (ci := 7) (v := .ref (a 1)) (C := RX8) (T := TX8) (N := 17) hx hb hts hi_X8_copy_X8 hown hK.1 hP 0 rfl rfl 0 (by decide) (hts _ k_X8_copy_1) (fun _ h9 => h9) rfl dX8_copy_85 ?_
                  refine lv_iload_n hx hb dX8_copy_88 rfl (lv_at hl 3 rfl) ?_
                  obtain ⟨hi, h⟩ := h
                  refine x_iald (v := rowSizes to.toNatClampNeg) hx hb hK hP 1 rfl hi rfl dX8_copy_89 ?_
                  refine lv_i2l hx hb dX8_copy_90 rfl ?_
                  refine W.lcmp hx hb dX8_copy_91 ?_
                  refine lv_if_le (tgt := 101) hx hb dX8_copy_92 (by decide) (fun hc => ?_) (fun hc => ?_)
                  · have h := h.1 hc
                    refine lv_iconst (v := (0)) hx hb dX8_copy_101 (by decide) ?_
                    refine lv_istore (lv' := [(6, .int (0 : Int32)), (0, .ref (a 0)), (1, .int r), (2, .int i), (3, .int to), (4, .int j), (5, .int n)]) hx hb dX8_copy_102 hl (by decide) rfl (fun ls hl => ?_)
                    obtain ⟨zn, h⟩ := h
                    exact w_104  zn rows finding findings (0 : Int32) h _ _ hP hD hS ls (lv_sub hl [1, 2, 3, 4, 5, 6, 0] rfl)
                  · have h := h.2 hc
                    exact w_95  rows finding findings h _ _ hP hD hS ls (lv_sub hl [0] rfl)
          · have h := h.2 hc
            exact w_45  rows finding findings h _ _ hP hD hS ls (lv_sub hl [0] rfl)
      · have h := h.2 hc
        refine lv_aload_n hx hb dX8_copy_21 rfl (lv_at hl 0 rfl) ?_
        refine lv_iconst (v := (5)) hx hb dX8_copy_22 (by decide) ?_
        refine wr_calli (ws1 := fun zu => W_X8 ca a rowSizes rows textSizes texts now keeps kept asked upper lower zu.1 zu.2 read at_ costs ways reach) (wr := ([] : List Nat).filterMap (fun zi => (W_X8 ca a rowSizes rows textSizes texts now keeps kept asked upper lower finding findings read at_ costs ways reach : va_W)[zi]?)) (n := 13) (va_runV (As := [.int (5 : Int32)]) (rest := []) ⟨hx, hb, hml, hown, hts⟩ (c_X8_found l D ca a rowSizes rows textSizes texts now keeps kept asked upper lower finding findings read at_ costs ways reach (5 : Int32) _ (hD.subM [0, 1, 2, 3, 4, 5, 6, 7, 8, 9, 10, 11, 12] (by decide) rfl) h) (cwV 1 hts gX8_copy_X8_found rfl rfl rfl (by decide +kernel) ⟨Nat.le_of_ble_eq_true rfl, Nat.le_of_ble_eq_true rfl⟩) (PcX.preV (q := (RX8, TX8, 17)) (ci := 7) (q0 := 0) hK hP rfl rfl hP) rfl rfl hl.1 rfl (lv_room (Nat.le_of_ble_eq_true rfl)) dX8_copy_23 ⟨Nat.le_of_ble_eq_true rfl, Nat.le_of_ble_eq_true rfl⟩) hP hD hS [0, 1, 2, 3, 4, 5, 6, 7, 8, 9, 10, 11, 12] [] rfl (fun _ => rfl) rfl (fun _ => rfl) (fun _ => rfl) (fun _ => rfl) (by decide +kernel) (by decide +kernel) (fun r9 zu H locs h hP hD hS => ?_)
        obtain ⟨finding_10, findings_11⟩ := zu
        have hP : va_P D vwCl (W_X8 ca a rowSizes rows textSizes texts now keeps kept asked upper lower finding_10 findings_11 read at_ costs ways reach) H := hP
        have hD : va_D _ (W_X8 ca a rowSizes rows textSizes texts now keeps kept asked upper lower finding_10 findings_11 read at_ costs ways reach) := hD
        try dsimp only at h
        exact W.iret (v := r9) hx hb hr (fun zt ht hW => ⟨⟨r9, (rows, finding_10, findings_11), rfl, h, by rw [ht]; exact hP⟩, hS.F ht⟩) hS.2.2 dX8_copy_26
    · have h := h.2 hc
      refine lv_iconst (v := (-1)) hx hb dX8_copy_14 (by decide) ?_
      exact W.iret (v := (-1 : Int32)) hx hb hr (fun zt ht hW => ⟨⟨(-1 : Int32), (rows, finding, findings), rfl, h, by rw [ht]; exact hP⟩, hS.F ht⟩) hS.2.2 dX8_copy_15

-- IronedQuarrelsModel.mean(I)I
def wb_X8_mean_44 (rowSizes : Nat → Int32) (rows : Nat → Int32) (r : Int32) (post : Int32 → (Int32) → (Int32) → (Nat → Int32) → Prop) (K44 : (Int32) → (Int32) → (Nat → Int32) → (Int64) → (Int32) → Prop) (asked : Int32) (finding : Int32) (findings : Nat → Int32) (x2 : Int64) (x4 : Int32) : Prop :=
  vp_in r 6 ∧ ((rowSizes r.toNatClampNeg) ≤ x4 → (vp_in r 6 ∧ ¬ ((rowSizes r.toNatClampNeg).toInt64) = 0 ∧ wp_X8_tell ((x2 / ((rowSizes r.toNatClampNeg).toInt64)).toInt32) (fun r2 asked_3 => post r2 asked_3 finding findings))) ∧ (¬ (rowSizes r.toNatClampNeg) ≤ x4 → (vp_in (((40 : Int32) * r) + x4) 240 ∧ K44 asked finding findings (x2 + ((rows (((40 : Int32) * r) + x4).toNatClampNeg).toInt64)) (x4 + 1)))
def wl_X8_mean_44 (rowSizes : Nat → Int32) (rows : Nat → Int32) (r : Int32) (post : Int32 → (Int32) → (Int32) → (Nat → Int32) → Prop) : Nat → (Int32) → (Int32) → (Nat → Int32) → (Int64) → (Int32) → Prop
  | 0 => fun _ _ _ _ _ => False
  | zn + 1 => wb_X8_mean_44 rowSizes rows r post (wl_X8_mean_44 rowSizes rows r post zn)
def wp_X8_mean (rowSizes : Nat → Int32) (rows : Nat → Int32) (asked : Int32) (finding : Int32) (findings : Nat → Int32) (r : Int32) (post : Int32 → (Int32) → (Int32) → (Nat → Int32) → Prop) : Prop :=
  wp_X8_isRow r (fun r1 => (¬ r1 = 0 → (vp_in r 6 ∧ (0 ≤ (rowSizes r.toNatClampNeg) → (vp_in r 6 ∧ (¬ (rowSizes r.toNatClampNeg) = 0 → (∃ zn, wl_X8_mean_44 rowSizes rows r post zn asked finding findings (0 : Int64) (0 : Int32))) ∧ ((rowSizes r.toNatClampNeg) = 0 → (wp_X8_found findings (4 : Int32) (fun r4 finding_5 findings_6 => post r4 asked finding_5 findings_6))))) ∧ (¬ 0 ≤ (rowSizes r.toNatClampNeg) → (wp_X8_found findings (1 : Int32) (fun r7 finding_8 findings_9 => post r7 asked finding_8 findings_9))))) ∧ (r1 = 0 → (post (-1 : Int32) asked finding findings)))
def rm_X8_mean : Room := { frames := 2, cells := 0, slots := 0, locals := 45 }
theorem k_X8_mean_1 : Cond.fieldLink RX8 7 "IronedQuarrelsModel" "rowSizes" "[I" ∈ wsX8_mean := List.mem_of_getElem? (i := 1) (by decide +kernel)
theorem k_X8_mean_2 : Cond.fieldLink RX8 13 "IronedQuarrelsModel" "rows" "[I" ∈ wsX8_mean := List.mem_of_getElem? (i := 2) (by decide +kernel)
theorem hi_X8_mean_X8 : ∀ w ∈ wsX80, w ∈ wsX8_mean := fun w h => List.mem_cons_of_mem _ (List.mem_append_right _ h)
set_option maxHeartbeats 4000000 in
set_option maxRecDepth 100000 in
theorem c_X8_mean (l : Launch) (D : va_G) (ca : Nat → ClassId) (a : Nat → Nat) (rowSizes : Nat → Int32) (rows : Nat → Int32) (textSizes : Nat → Int32) (texts : Nat → Int32) (now : Nat → Int32) (keeps : Nat → Int32) (kept : Nat → Int32) (asked : Int32) (upper : Int64) (lower : Int64) (finding : Int32) (findings : Nat → Int32) (read : Nat → Int32) (at_ : Int32) (costs : Nat → Int32) (ways : Nat → Int64) (reach : Nat → Int32) (r : Int32) (post : Int32 → (Int32) → (Int32) → (Nat → Int32) → Prop) (hd : va_D (fun _ => True) (W_X8 ca a rowSizes rows textSizes texts now keeps kept asked upper lower finding findings read at_ costs ways reach)) (h : wp_X8_mean rowSizes rows asked finding findings r post) : Met l yX8_mean wsX8_mean rm_X8_mean (PcX D ca [.ref (a 0), .int r] (W_X8 ca a rowSizes rows textSizes texts now keeps kept asked upper lower finding findings read at_ costs ways reach)) (wrI (S := (Int32) × (Int32) × (Nat → Int32)) D (W_X8 ca a rowSizes rows textSizes texts now keeps kept asked upper lower finding findings read at_ costs ways reach) (fun zu => W_X8 ca a rowSizes rows textSizes texts now keeps kept zu.1 upper lower zu.2.1 zu.2.2 read at_ costs ways reach) (fun zr zu => post zr zu.1 zu.2.1 zu.2.2)) 0 0 (adr (W_X8 ca a rowSizes rows textSizes texts now keeps kept asked upper lower finding findings read at_ costs ways reach)) := by
  refine Met.ofW (cc := cX8_mean) (maxL := 5) (ret := (some .int)) (by decide) rfl ?_
  intro zp ze zs zm za zb zt zc z1 B hml hv
  obtain ⟨rfl, hP, hK⟩ := hv
  have hx := B.exec
  have hb := B.bytes
  have hr := B.returns
  have hts := atoms_spec (ws := wsX8_mean) B.pre
  have hown : zs.vm.findClass RX8 = some zm.cls := findClass_of_methodNamed B.named
  have hlocks := B.notSynchronized
  have hD : va_D (adr (W_X8 ca a rowSizes rows textSizes texts now keeps kept asked upper lower finding findings read at_ costs ways reach)) (W_X8 ca a rowSizes rows textSizes texts now keeps kept asked upper lower finding findings read at_ costs ways reach) := hd.adr
  have hS : va_S (adr (W_X8 ca a rowSizes rows textSizes texts now keeps kept asked upper lower finding findings read at_ costs ways reach)) zs.heap zs.heap [] := va_S.rf
  have hl := lv_entry ([.ref (a 0), .int r]) (n := 5) (Nat.le_of_ble_eq_true rfl)
  rw [lg_entry_eq]
  generalize (lg_sl ([.ref (a 0), .int r]) ++ List.replicate (5 - (lg_sl ([.ref (a 0), .int r])).length) Slot.unset).toArray = ls at hl ⊢
  replace hl : lv_has ls 5 [(0, .ref (a 0)), (1, .int r)] := hl
  show W zp l ze rm_X8_mean zs zm ([.ref (a 0), .int r] : List Value).toArray zb zt zc zs.heap [] 0 0 (MQ zb (wrI (S := (Int32) × (Int32) × (Nat → Int32)) D (W_X8 ca a rowSizes rows textSizes texts now keeps kept asked upper lower finding findings read at_ costs ways reach) (fun zu => W_X8 ca a rowSizes rows textSizes texts now keeps kept zu.1 upper lower zu.2.1 zu.2.2 read at_ costs ways reach) (fun zr zu => post zr zu.1 zu.2.1 zu.2.2)) ([.ref (a 0), .int r] : List Value).toArray zs 0 0 (adr (W_X8 ca a rowSizes rows textSizes texts now keeps kept asked upper lower finding findings read at_ costs ways reach))) (F0 zm 0 ls [])
  have w_44 : ∀ (zn : Nat) (asked : Int32) (finding : Int32) (findings : Nat → Int32) (x2 : Int64) (x4 : Int32), wl_X8_mean_44 rowSizes rows r post zn asked finding findings x2 x4 → ∀ (H : Heap) (locs : List Loc), va_P D vwCl (W_X8 ca a rowSizes rows textSizes texts now keeps kept asked upper lower finding findings read at_ costs ways reach) H → va_D (adr (W_X8 ca a rowSizes rows textSizes texts now keeps kept asked upper lower finding findings read at_ costs ways reach)) (W_X8 ca a rowSizes rows textSizes texts now keeps kept asked upper lower finding findings read at_ costs ways reach) → va_S (adr (W_X8 ca a rowSizes rows textSizes texts now keeps kept asked upper lower finding findings read at_ costs ways reach)) zs.heap H locs → ∀ ls : Array Slot, lv_has ls 5 [(0, .ref (a 0)), (1, .int r), (2, .long x2), (4, .int x4)] → W zp l ze rm_X8_mean zs zm ([.ref (a 0), .int r] : List Value).toArray zb zt zc H locs 0 0 (MQ zb (wrI (S := (Int32) × (Int32) × (Nat → Int32)) D (W_X8 ca a rowSizes rows textSizes texts now keeps kept asked upper lower finding findings read at_ costs ways reach) (fun zu => W_X8 ca a rowSizes rows textSizes texts now keeps kept zu.1 upper lower zu.2.1 zu.2.2 read at_ costs ways reach) (fun zr zu => post zr zu.1 zu.2.1 zu.2.2)) ([.ref (a 0), .int r] : List Value).toArray zs 0 0 (adr (W_X8 ca a rowSizes rows textSizes texts now keeps kept asked upper lower finding findings read at_ costs ways reach))) (F0 zm 44 ls []) := by
    intro zn
    induction zn with
    | zero => intro asked finding findings x2 x4 h; exact h.elim
    | succ zn ih44 =>
      intro asked finding findings x2 x4 h H locs hP hD hS ls hl
      replace h : wb_X8_mean_44 rowSizes rows r post (wl_X8_mean_44 rowSizes rows r post zn) asked finding findings x2 x4 := h
      unfold wb_X8_mean_44 at h
      refine lv_iload hx hb dX8_mean_44 (lv_at hl 3 rfl) ?_
      refine lv_aload_n hx hb dX8_mean_46 rfl (lv_at hl 0 rfl) ?_
      refine va_get (D := D) (ci := 7) (v := .ref (a 1)) (C := RX8) (T := TX8) (N := 17) hx hb hts hi_X8_mean_X8 hown hK.1 hP 0 rfl rfl 0 (by decide) (hts _ k_X8_mean_1) (fun _ h9 => h9) rfl dX8_mean_47 ?_
      refine lv_iload_n hx hb dX8_mean_50 rfl (lv_at hl 1 rfl) ?_
      obtain ⟨hi, h⟩ := h
      refine x_iald (v := rowSizes r.toNatClampNeg) hx hb hK hP 1 rfl hi rfl dX8_mean_51 ?_
      refine lv_icmp_ge (tgt := 77) hx hb dX8_mean_52 (by decide) (fun hc => ?_) (fun hc => ?_)
      · have h := h.1 hc
        refine lv_aload_n hx hb dX8_mean_77 rfl (lv_at hl 0 rfl) ?_
        refine lv_lload_n hx hb dX8_mean_78 rfl (lv_at hl 2 rfl) ?_
        refine lv_aload_n hx hb dX8_mean_79 rfl (lv_at hl 0 rfl) ?_
        refine va_get (D := D) (ci := 7) (v := .ref (a 1)) (C := RX8) (T := TX8) (N := 17) hx hb hts hi_X8_mean_X8 hown hK.1 hP 0 rfl rfl 0 (by decide) (hts _ k_X8_mean_1) (fun _ h9 => h9) rfl dX8_mean_80 ?_
        refine lv_iload_n hx hb dX8_mean_83 rfl (lv_at hl 1 rfl) ?_
        obtain ⟨hi, h⟩ := h
        refine x_iald (v := rowSizes r.toNatClampNeg) hx hb hK hP 1 rfl hi rfl dX8_mean_84 ?_
        refine lv_i2l hx hb dX8_mean_85 rfl ?_
        obtain ⟨h0, h⟩ := h
        refine lv_ldiv hx hb dX8_mean_86 h0 ?_
        refine lv_l2i hx hb dX8_mean_87 rfl ?_
        refine wr_calli (ws1 := fun zu => W_X8 ca a rowSizes rows textSizes texts now keeps kept zu upper lower finding findings read at_ costs ways reach) (wr := ([] : List Nat).filterMap (fun zi => (W_X8 ca a rowSizes rows textSizes texts now keeps kept asked upper lower finding findings read at_ costs ways reach : va_W)[zi]?)) (n := 13) (va_runV (As := [.int ((x2 / ((rowSizes r.toNatClampNeg).toInt64)).toInt32)]) (rest := []) ⟨hx, hb, hml, hown, hts⟩ (c_X8_tell l D ca a rowSizes rows textSizes texts now keeps kept asked upper lower finding findings read at_ costs ways reach ((x2 / ((rowSizes r.toNatClampNeg).toInt64)).toInt32) _ (hD.subM [0, 1, 2, 3, 4, 5, 6, 7, 8, 9, 10, 11, 12] (by decide) rfl) h) (cwV 1 hts gX8_mean_X8_tell rfl rfl rfl (by decide +kernel) ⟨Nat.le_of_ble_eq_true rfl, Nat.le_of_ble_eq_true rfl⟩) (PcX.preV (q := (RX8, TX8, 17)) (ci := 7) (q0 := 0) hK hP rfl rfl hP) rfl rfl hl.1 rfl (lv_room (Nat.le_of_ble_eq_true rfl)) dX8_mean_88 ⟨Nat.le_of_ble_eq_true rfl, Nat.le_of_ble_eq_true rfl⟩) hP hD hS [0, 1, 2, 3, 4, 5, 6, 7, 8, 9, 10, 11, 12] [] rfl (fun _ => rfl) rfl (fun _ => rfl) (fun _ => rfl) (fun _ => rfl) (by decide +kernel) (by decide +kernel) (fun r2 zu H locs h hP hD hS => ?_)
        obtain ⟨asked_3, rfl⟩ : ∃ zz, zz = zu := ⟨zu, rfl⟩
        have hP : va_P D vwCl (W_X8 ca a rowSizes rows textSizes texts now keeps kept asked_3 upper lower finding findings read at_ costs ways reach) H := hP
        have hD : va_D _ (W_X8 ca a rowSizes rows textSizes texts now keeps kept asked_3 upper lower finding findings read at_ costs ways reach) := hD
        try dsimp only at h
        exact W.iret (v := r2) hx hb hr (fun zt ht hW => ⟨⟨r2, (asked_3, finding, findings), rfl, h, by rw [ht]; exact hP⟩, hS.F ht⟩) hS.2.2 dX8_mean_91
      · have h := h.2 hc
        refine lv_lload_n hx hb dX8_mean_55 rfl (lv_at hl 2 rfl) ?_
        refine lv_aload_n hx hb dX8_mean_56 rfl (lv_at hl 0 rfl) ?_
        refine va_get (D := D) (ci := 7) (v := .ref (a 2)) (C := RX8) (T := TX8) (N := 17) hx hb hts hi_X8_mean_X8 hown hK.1 hP 0 rfl rfl 1 (by decide) (hts _ k_X8_mean_2) (fun _ h9 => h9) rfl dX8_mean_57 ?_
        refine lv_bipush (v := (40)) hx hb dX8_mean_60 (by decide) ?_
        refine lv_iload_n hx hb dX8_mean_62 rfl (lv_at hl 1 rfl) ?_
        refine lv_imul hx hb dX8_mean_63 ?_
        refine lv_iload hx hb dX8_mean_64 (lv_at hl 3 rfl) ?_
        refine lv_iadd hx hb dX8_mean_66 ?_
        obtain ⟨hi, h⟩ := h
        refine x_iald (v := rows (((40 : Int32) * r) + x4).toNatClampNeg) hx hb hK hP 2 rfl hi rfl dX8_mean_67 ?_
        refine lv_i2l hx hb dX8_mean_68 rfl ?_
        refine lv_ladd hx hb dX8_mean_69 ?_
        refine lv_lstore_n (lv' := [(2, .long (x2 + ((rows (((40 : Int32) * r) + x4).toNatClampNeg).toInt64))), (0, .ref (a 0)), (1, .int r), (4, .int x4)]) hx hb dX8_mean_70 rfl hl (by decide) rfl (fun ls hl => ?_)
        refine lv_iinc (v := x4 + 1) (lv' := [(4, .int (x4 + 1)), (2, .long (x2 + ((rows (((40 : Int32) * r) + x4).toNatClampNeg).toInt64))), (0, .ref (a 0)), (1, .int r)]) hx hb dX8_mean_71 hl (k := 3) rfl rfl (by decide) rfl (fun ls hl => ?_)
        refine lv_goto (tgt := 44) hx hb dX8_mean_74 (by decide) ?_
        exact ih44 asked finding findings (x2 + ((rows (((40 : Int32) * r) + x4).toNatClampNeg).toInt64)) (x4 + 1) h _ _ hP hD hS ls (lv_sub hl [2, 3, 1, 0] rfl)
  unfold wp_X8_mean at h
  refine lv_iload_n hx hb dX8_mean_0 rfl (lv_at hl 1 rfl) ?_
  refine rd_callz (va_runS (As := [.int r]) (rest := []) ⟨hx, hb, hml, hown, hts⟩ (c_X8_isRow l D ca   r _ h) (va_cwS 1 hts gX8_mean_X8_isRow rfl rfl rfl (by decide +kernel) ⟨Nat.le_of_ble_eq_true rfl, Nat.le_of_ble_eq_true rfl⟩) (PcX.preS hK (fun zk zq zh => by simp at zh)) rfl rfl hl.1 rfl (lv_room (Nat.le_of_ble_eq_true rfl)) dX8_mean_1 ⟨Nat.le_of_ble_eq_true rfl, Nat.le_of_ble_eq_true rfl⟩) (fun r1 h hz_r1 => ?_)
  try dsimp only at h
  refine lv_if_ne (tgt := 9) hx hb dX8_mean_4 (by decide) (fun hc => ?_) (fun hc => ?_)
  · have h := h.1 hc
    refine lv_aload_n hx hb dX8_mean_9 rfl (lv_at hl 0 rfl) ?_
    refine va_get (D := D) (ci := 7) (v := .ref (a 1)) (C := RX8) (T := TX8) (N := 17) hx hb hts hi_X8_mean_X8 hown hK.1 hP 0 rfl rfl 0 (by decide) (hts _ k_X8_mean_1) (fun _ h9 => h9) rfl dX8_mean_10 ?_
    refine lv_iload_n hx hb dX8_mean_13 rfl (lv_at hl 1 rfl) ?_
    obtain ⟨hi, h⟩ := h
    refine x_iald (v := rowSizes r.toNatClampNeg) hx hb hK hP 1 rfl hi rfl dX8_mean_14 ?_
    refine lv_if_ge (tgt := 24) hx hb dX8_mean_15 (by decide) (fun hc => ?_) (fun hc => ?_)
    · have h := h.1 hc
      refine lv_aload_n hx hb dX8_mean_24 rfl (lv_at hl 0 rfl) ?_
      refine va_get (D := D) (ci := 7) (v := .ref (a 1)) (C := RX8) (T := TX8) (N := 17) hx hb hts hi_X8_mean_X8 hown hK.1 hP 0 rfl rfl 0 (by decide) (hts _ k_X8_mean_1) (fun _ h9 => h9) rfl dX8_mean_25 ?_
      refine lv_iload_n hx hb dX8_mean_28 rfl (lv_at hl 1 rfl) ?_
      obtain ⟨hi, h⟩ := h
      refine x_iald (v := rowSizes r.toNatClampNeg) hx hb hK hP 1 rfl hi rfl dX8_mean_29 ?_
      refine lv_if_ne (tgt := 39) hx hb dX8_mean_30 (by decide) (fun hc => ?_) (fun hc => ?_)
      · have h := h.1 hc
        refine lv_lconst (v := (0)) hx hb dX8_mean_39 (by decide) ?_
        refine lv_lstore_n (lv' := [(2, .long (0 : Int64)), (0, .ref (a 0)), (1, .int r)]) hx hb dX8_mean_40 rfl hl (by decide) rfl (fun ls hl => ?_)
        refine lv_iconst (v := (0)) hx hb dX8_mean_41 (by decide) ?_
        refine lv_istore (lv' := [(4, .int (0 : Int32)), (2, .long (0 : Int64)), (0, .ref (a 0)), (1, .int r)]) hx hb dX8_mean_42 hl (by decide) rfl (fun ls hl => ?_)
        obtain ⟨zn, h⟩ := h
        exact w_44  zn asked finding findings (0 : Int64) (0 : Int32) h _ _ hP hD hS ls (lv_sub hl [2, 3, 1, 0] rfl)
      · have h := h.2 hc
        refine lv_aload_n hx hb dX8_mean_33 rfl (lv_at hl 0 rfl) ?_
        refine lv_iconst (v := (4)) hx hb dX8_mean_34 (by decide) ?_
        refine wr_calli (ws1 := fun zu => W_X8 ca a rowSizes rows textSizes texts now keeps kept asked upper lower zu.1 zu.2 read at_ costs ways reach) (wr := ([] : List Nat).filterMap (fun zi => (W_X8 ca a rowSizes rows textSizes texts now keeps kept asked upper lower finding findings read at_ costs ways reach : va_W)[zi]?)) (n := 13) (va_runV (As := [.int (4 : Int32)]) (rest := []) ⟨hx, hb, hml, hown, hts⟩ (c_X8_found l D ca a rowSizes rows textSizes texts now keeps kept asked upper lower finding findings read at_ costs ways reach (4 : Int32) _ (hD.subM [0, 1, 2, 3, 4, 5, 6, 7, 8, 9, 10, 11, 12] (by decide) rfl) h) (cwV 1 hts gX8_mean_X8_found rfl rfl rfl (by decide +kernel) ⟨Nat.le_of_ble_eq_true rfl, Nat.le_of_ble_eq_true rfl⟩) (PcX.preV (q := (RX8, TX8, 17)) (ci := 7) (q0 := 0) hK hP rfl rfl hP) rfl rfl hl.1 rfl (lv_room (Nat.le_of_ble_eq_true rfl)) dX8_mean_35 ⟨Nat.le_of_ble_eq_true rfl, Nat.le_of_ble_eq_true rfl⟩) hP hD hS [0, 1, 2, 3, 4, 5, 6, 7, 8, 9, 10, 11, 12] [] rfl (fun _ => rfl) rfl (fun _ => rfl) (fun _ => rfl) (fun _ => rfl) (by decide +kernel) (by decide +kernel) (fun r4 zu H locs h hP hD hS => ?_)
        obtain ⟨finding_5, findings_6⟩ := zu
        have hP : va_P D vwCl (W_X8 ca a rowSizes rows textSizes texts now keeps kept asked upper lower finding_5 findings_6 read at_ costs ways reach) H := hP
        have hD : va_D _ (W_X8 ca a rowSizes rows textSizes texts now keeps kept asked upper lower finding_5 findings_6 read at_ costs ways reach) := hD
        try dsimp only at h
        exact W.iret (v := r4) hx hb hr (fun zt ht hW => ⟨⟨r4, (asked, finding_5, findings_6), rfl, h, by rw [ht]; exact hP⟩, hS.F ht⟩) hS.2.2 dX8_mean_38
    · have h := h.2 hc
      refine lv_aload_n hx hb dX8_mean_18 rfl (lv_at hl 0 rfl) ?_
      refine lv_iconst (v := (1)) hx hb dX8_mean_19 (by decide) ?_
      refine wr_calli (ws1 := fun zu => W_X8 ca a rowSizes rows textSizes texts now keeps kept asked upper lower zu.1 zu.2 read at_ costs ways reach) (wr := ([] : List Nat).filterMap (fun zi => (W_X8 ca a rowSizes rows textSizes texts now keeps kept asked upper lower finding findings read at_ costs ways reach : va_W)[zi]?)) (n := 13) (va_runV (As := [.int (1 : Int32)]) (rest := []) ⟨hx, hb, hml, hown, hts⟩ (c_X8_found l D ca a rowSizes rows textSizes texts now keeps kept asked upper lower finding findings read at_ costs ways reach (1 : Int32) _ (hD.subM [0, 1, 2, 3, 4, 5, 6, 7, 8, 9, 10, 11, 12] (by decide) rfl) h) (cwV 1 hts gX8_mean_X8_found rfl rfl rfl (by decide +kernel) ⟨Nat.le_of_ble_eq_true rfl, Nat.le_of_ble_eq_true rfl⟩) (PcX.preV (q := (RX8, TX8, 17)) (ci := 7) (q0 := 0) hK hP rfl rfl hP) rfl rfl hl.1 rfl (lv_room (Nat.le_of_ble_eq_true rfl)) dX8_mean_20 ⟨Nat.le_of_ble_eq_true rfl, Nat.le_of_ble_eq_true rfl⟩) hP hD hS [0, 1, 2, 3, 4, 5, 6, 7, 8, 9, 10, 11, 12] [] rfl (fun _ => rfl) rfl (fun _ => rfl) (fun _ => rfl) (fun _ => rfl) (by decide +kernel) (by decide +kernel) (fun r7 zu H locs h hP hD hS => ?_)
      obtain ⟨finding_8, findings_9⟩ := zu
      have hP : va_P D vwCl (W_X8 ca a rowSizes rows textSizes texts now keeps kept asked upper lower finding_8 findings_9 read at_ costs ways reach) H := hP
      have hD : va_D _ (W_X8 ca a rowSizes rows textSizes texts now keeps kept asked upper lower finding_8 findings_9 read at_ costs ways reach) := hD
      try dsimp only at h
      exact W.iret (v := r7) hx hb hr (fun zt ht hW => ⟨⟨r7, (asked, finding_8, findings_9), rfl, h, by rw [ht]; exact hP⟩, hS.F ht⟩) hS.2.2 dX8_mean_23
  · have h := h.2 hc
    refine lv_iconst (v := (-1)) hx hb dX8_mean_7 (by decide) ?_
    exact W.iret (v := (-1 : Int32)) hx hb hr (fun zt ht hW => ⟨⟨(-1 : Int32), (asked, finding, findings), rfl, h, by rw [ht]; exact hP⟩, hS.F ht⟩) hS.2.2 dX8_mean_8

-- IronedQuarrelsModel.text(II)I
def wb_X8_text_34 (t : Int32) (n : Int32) (post : Int32 → (Nat → Int32) → (Nat → Int32) → (Int32) → (Nat → Int32) → Prop) (K34 : (Nat → Int32) → (Nat → Int32) → (Int32) → (Nat → Int32) → (Int32) → Prop) (textSizes : Nat → Int32) (texts : Nat → Int32) (finding : Int32) (findings : Nat → Int32) (x3 : Int32) : Prop :=
  ((80 : Int32) ≤ x3 → (post n textSizes texts finding findings)) ∧ (¬ (80 : Int32) ≤ x3 → (vp_in (((80 : Int32) * t) + x3) 320 ∧ K34 textSizes (upd texts ((((80 : Int32) * t) + x3).toNatClampNeg) (32 : Int32)) finding findings (x3 + 1)))
def wl_X8_text_34 (t : Int32) (n : Int32) (post : Int32 → (Nat → Int32) → (Nat → Int32) → (Int32) → (Nat → Int32) → Prop) : Nat → (Nat → Int32) → (Nat → Int32) → (Int32) → (Nat → Int32) → (Int32) → Prop
  | 0 => fun _ _ _ _ _ => False
  | zn + 1 => wb_X8_text_34 t n post (wl_X8_text_34 t n post zn)
def wp_X8_text (textSizes : Nat → Int32) (texts : Nat → Int32) (finding : Int32) (findings : Nat → Int32) (t : Int32) (n : Int32) (post : Int32 → (Nat → Int32) → (Nat → Int32) → (Int32) → (Nat → Int32) → Prop) : Prop :=
  wp_X8_isText t (fun r1 => (r1 = 0 → (post (-1 : Int32) textSizes texts finding findings)) ∧ (¬ r1 = 0 → ((n ≤ (80 : Int32) → ((0 ≤ n → (vp_in t 4 ∧ ∃ zn, wl_X8_text_34 t n post zn (upd textSizes (t.toNatClampNeg) n) texts finding findings (0 : Int32))) ∧ (¬ 0 ≤ n → (wp_X8_found findings (5 : Int32) (fun r2 finding_3 findings_4 => post r2 textSizes texts finding_3 findings_4))))) ∧ (¬ n ≤ (80 : Int32) → (post (-1 : Int32) textSizes texts finding findings)))))
def rm_X8_text : Room := { frames := 2, cells := 0, slots := 0, locals := 45 }
theorem k_X8_text_1 : Cond.fieldLink RX8 16 "IronedQuarrelsModel" "textSizes" "[I" ∈ wsX8_text := List.mem_of_getElem? (i := 1) (by decide +kernel)
theorem k_X8_text_2 : Cond.fieldLink RX8 19 "IronedQuarrelsModel" "texts" "[I" ∈ wsX8_text := List.mem_of_getElem? (i := 2) (by decide +kernel)
theorem hi_X8_text_X8 : ∀ w ∈ wsX80, w ∈ wsX8_text := fun w h => List.mem_cons_of_mem _ (List.mem_append_right _ h)
set_option maxHeartbeats 4000000 in
set_option maxRecDepth 100000 in
theorem c_X8_text (l : Launch) (D : va_G) (ca : Nat → ClassId) (a : Nat → Nat) (rowSizes : Nat → Int32) (rows : Nat → Int32) (textSizes : Nat → Int32) (texts : Nat → Int32) (now : Nat → Int32) (keeps : Nat → Int32) (kept : Nat → Int32) (asked : Int32) (upper : Int64) (lower : Int64) (finding : Int32) (findings : Nat → Int32) (read : Nat → Int32) (at_ : Int32) (costs : Nat → Int32) (ways : Nat → Int64) (reach : Nat → Int32) (t : Int32) (n : Int32) (post : Int32 → (Nat → Int32) → (Nat → Int32) → (Int32) → (Nat → Int32) → Prop) (hd : va_D (fun _ => True) (W_X8 ca a rowSizes rows textSizes texts now keeps kept asked upper lower finding findings read at_ costs ways reach)) (h : wp_X8_text textSizes texts finding findings t n post) : Met l yX8_text wsX8_text rm_X8_text (PcX D ca [.ref (a 0), .int t, .int n] (W_X8 ca a rowSizes rows textSizes texts now keeps kept asked upper lower finding findings read at_ costs ways reach)) (wrI (S := (Nat → Int32) × (Nat → Int32) × (Int32) × (Nat → Int32)) D (W_X8 ca a rowSizes rows textSizes texts now keeps kept asked upper lower finding findings read at_ costs ways reach) (fun zu => W_X8 ca a rowSizes rows zu.1 zu.2.1 now keeps kept asked upper lower zu.2.2.1 zu.2.2.2 read at_ costs ways reach) (fun zr zu => post zr zu.1 zu.2.1 zu.2.2.1 zu.2.2.2)) 0 0 (adr (W_X8 ca a rowSizes rows textSizes texts now keeps kept asked upper lower finding findings read at_ costs ways reach)) := by
  refine Met.ofW (cc := cX8_text) (maxL := 4) (ret := (some .int)) (by decide) rfl ?_
  intro zp ze zs zm za zb zt zc z1 B hml hv
  obtain ⟨rfl, hP, hK⟩ := hv
  have hx := B.exec
  have hb := B.bytes
  have hr := B.returns
  have hts := atoms_spec (ws := wsX8_text) B.pre
  have hown : zs.vm.findClass RX8 = some zm.cls := findClass_of_methodNamed B.named
  have hlocks := B.notSynchronized
  have hD : va_D (adr (W_X8 ca a rowSizes rows textSizes texts now keeps kept asked upper lower finding findings read at_ costs ways reach)) (W_X8 ca a rowSizes rows textSizes texts now keeps kept asked upper lower finding findings read at_ costs ways reach) := hd.adr
  have hS : va_S (adr (W_X8 ca a rowSizes rows textSizes texts now keeps kept asked upper lower finding findings read at_ costs ways reach)) zs.heap zs.heap [] := va_S.rf
  have hl := lv_entry ([.ref (a 0), .int t, .int n]) (n := 4) (Nat.le_of_ble_eq_true rfl)
  rw [lg_entry_eq]
  generalize (lg_sl ([.ref (a 0), .int t, .int n]) ++ List.replicate (4 - (lg_sl ([.ref (a 0), .int t, .int n])).length) Slot.unset).toArray = ls at hl ⊢
  replace hl : lv_has ls 4 [(0, .ref (a 0)), (1, .int t), (2, .int n)] := hl
  show W zp l ze rm_X8_text zs zm ([.ref (a 0), .int t, .int n] : List Value).toArray zb zt zc zs.heap [] 0 0 (MQ zb (wrI (S := (Nat → Int32) × (Nat → Int32) × (Int32) × (Nat → Int32)) D (W_X8 ca a rowSizes rows textSizes texts now keeps kept asked upper lower finding findings read at_ costs ways reach) (fun zu => W_X8 ca a rowSizes rows zu.1 zu.2.1 now keeps kept asked upper lower zu.2.2.1 zu.2.2.2 read at_ costs ways reach) (fun zr zu => post zr zu.1 zu.2.1 zu.2.2.1 zu.2.2.2)) ([.ref (a 0), .int t, .int n] : List Value).toArray zs 0 0 (adr (W_X8 ca a rowSizes rows textSizes texts now keeps kept asked upper lower finding findings read at_ costs ways reach))) (F0 zm 0 ls [])
  have w_34 : ∀ (zn : Nat) (textSizes : Nat → Int32) (texts : Nat → Int32) (finding : Int32) (findings : Nat → Int32) (x3 : Int32), wl_X8_text_34 t n post zn textSizes texts finding findings x3 → ∀ (H : Heap) (locs : List Loc), va_P D vwCl (W_X8 ca a rowSizes rows textSizes texts now keeps kept asked upper lower finding findings read at_ costs ways reach) H → va_D (adr (W_X8 ca a rowSizes rows textSizes texts now keeps kept asked upper lower finding findings read at_ costs ways reach)) (W_X8 ca a rowSizes rows textSizes texts now keeps kept asked upper lower finding findings read at_ costs ways reach) → va_S (adr (W_X8 ca a rowSizes rows textSizes texts now keeps kept asked upper lower finding findings read at_ costs ways reach)) zs.heap H locs → ∀ ls : Array Slot, lv_has ls 4 [(0, .ref (a 0)), (1, .int t), (2, .int n), (3, .int x3)] → W zp l ze rm_X8_text zs zm ([.ref (a 0), .int t, .int n] : List Value).toArray zb zt zc H locs 0 0 (MQ zb (wrI (S := (Nat → Int32) × (Nat → Int32) × (Int32) × (Nat → Int32)) D (W_X8 ca a rowSizes rows textSizes texts now keeps kept asked upper lower finding findings read at_ costs ways reach) (fun zu => W_X8 ca a rowSizes rows zu.1 zu.2.1 now keeps kept asked upper lower zu.2.2.1 zu.2.2.2 read at_ costs ways reach) (fun zr zu => post zr zu.1 zu.2.1 zu.2.2.1 zu.2.2.2)) ([.ref (a 0), .int t, .int n] : List Value).toArray zs 0 0 (adr (W_X8 ca a rowSizes rows textSizes texts now keeps kept asked upper lower finding findings read at_ costs ways reach))) (F0 zm 34 ls []) := by
    intro zn
    induction zn with
    | zero => intro textSizes texts finding findings x3 h; exact h.elim
    | succ zn ih34 =>
      intro textSizes texts finding findings x3 h H locs hP hD hS ls hl
      replace h : wb_X8_text_34 t n post (wl_X8_text_34 t n post zn) textSizes texts finding findings x3 := h
      unfold wb_X8_text_34 at h
      refine lv_iload_n hx hb dX8_text_34 rfl (lv_at hl 3 rfl) ?_
      refine lv_bipush (v := (80)) hx hb dX8_text_35 (by decide) ?_
      refine lv_icmp_ge (tgt := 59) hx hb dX8_text_37 (by decide) (fun hc => ?_) (fun hc => ?_)
      · have h := h.1 hc
        refine lv_iload_n hx hb dX8_text_59 rfl (lv_at hl 2 rfl) ?_
        exact W.iret (v := n) hx hb hr (fun zt ht hW => ⟨⟨n, (textSizes, texts, finding, findings), rfl, h, by rw [ht]; exact hP⟩, hS.F ht⟩) hS.2.2 dX8_text_60
      · have h := h.2 hc
        refine lv_aload_n hx hb dX8_text_40 rfl (lv_at hl 0 rfl) ?_
        refine va_get (D := D) (ci := 7) (v := .ref (a 4)) (C := RX8) (T := TX8) (N := 17) hx hb hts hi_X8_text_X8 hown hK.1 hP 0 rfl rfl 3 (by decide) (hts _ k_X8_text_2) (fun _ h9 => h9) rfl dX8_text_41 ?_
        refine lv_bipush (v := (80)) hx hb dX8_text_44 (by decide) ?_
        refine lv_iload_n hx hb dX8_text_46 rfl (lv_at hl 1 rfl) ?_
        refine lv_imul hx hb dX8_text_47 ?_
        refine lv_iload_n hx hb dX8_text_48 rfl (lv_at hl 3 rfl) ?_
        refine lv_iadd hx hb dX8_text_49 ?_
        refine lv_bipush (v := (32)) hx hb dX8_text_50 (by decide) ?_
        obtain ⟨hi, h⟩ := h
        refine x_iast (ws' := W_X8 ca a rowSizes rows textSizes (upd texts ((((80 : Int32) * t) + x3).toNatClampNeg) (32 : Int32)) now keeps kept asked upper lower finding findings read at_ costs ways reach) hx hb hK hP hD hS 4 rfl hi (k := ((((80 : Int32) * t) + x3).toNatClampNeg)) rfl rfl dX8_text_52 (fun H locs hP hD hS => ?_)
        refine lv_iinc (v := x3 + 1) (lv' := [(3, .int (x3 + 1)), (0, .ref (a 0)), (1, .int t), (2, .int n)]) hx hb dX8_text_53 hl (k := 3) rfl rfl (by decide) rfl (fun ls hl => ?_)
        refine lv_goto (tgt := 34) hx hb dX8_text_56 (by decide) ?_
        exact ih34 textSizes (upd texts ((((80 : Int32) * t) + x3).toNatClampNeg) (32 : Int32)) finding findings (x3 + 1) h _ _ hP hD hS ls (lv_sub hl [1, 2, 3, 0] rfl)
  unfold wp_X8_text at h
  refine lv_iload_n hx hb dX8_text_0 rfl (lv_at hl 1 rfl) ?_
  refine rd_callz (va_runS (As := [.int t]) (rest := []) ⟨hx, hb, hml, hown, hts⟩ (c_X8_isText l D ca   t _ h) (va_cwS 1 hts gX8_text_X8_isText rfl rfl rfl (by decide +kernel) ⟨Nat.le_of_ble_eq_true rfl, Nat.le_of_ble_eq_true rfl⟩) (PcX.preS hK (fun zk zq zh => by simp at zh)) rfl rfl hl.1 rfl (lv_room (Nat.le_of_ble_eq_true rfl)) dX8_text_1 ⟨Nat.le_of_ble_eq_true rfl, Nat.le_of_ble_eq_true rfl⟩) (fun r1 h hz_r1 => ?_)
  try dsimp only at h
  refine lv_if_eq (tgt := 13) hx hb dX8_text_4 (by decide) (fun hc => ?_) (fun hc => ?_)
  · have h := h.1 hc
    refine lv_iconst (v := (-1)) hx hb dX8_text_13 (by decide) ?_
    exact W.iret (v := (-1 : Int32)) hx hb hr (fun zt ht hW => ⟨⟨(-1 : Int32), (textSizes, texts, finding, findings), rfl, h, by rw [ht]; exact hP⟩, hS.F ht⟩) hS.2.2 dX8_text_14
  · have h := h.2 hc
    refine lv_iload_n hx hb dX8_text_7 rfl (lv_at hl 2 rfl) ?_
    refine lv_bipush (v := (80)) hx hb dX8_text_8 (by decide) ?_
    refine lv_icmp_le (tgt := 15) hx hb dX8_text_10 (by decide) (fun hc => ?_) (fun hc => ?_)
    · have h := h.1 hc
      refine lv_iload_n hx hb dX8_text_15 rfl (lv_at hl 2 rfl) ?_
      refine lv_if_ge (tgt := 25) hx hb dX8_text_16 (by decide) (fun hc => ?_) (fun hc => ?_)
      · have h := h.1 hc
        refine lv_aload_n hx hb dX8_text_25 rfl (lv_at hl 0 rfl) ?_
        refine va_get (D := D) (ci := 7) (v := .ref (a 3)) (C := RX8) (T := TX8) (N := 17) hx hb hts hi_X8_text_X8 hown hK.1 hP 0 rfl rfl 2 (by decide) (hts _ k_X8_text_1) (fun _ h9 => h9) rfl dX8_text_26 ?_
        refine lv_iload_n hx hb dX8_text_29 rfl (lv_at hl 1 rfl) ?_
        refine lv_iload_n hx hb dX8_text_30 rfl (lv_at hl 2 rfl) ?_
        obtain ⟨hi, h⟩ := h
        refine x_iast (ws' := W_X8 ca a rowSizes rows (upd textSizes (t.toNatClampNeg) n) texts now keeps kept asked upper lower finding findings read at_ costs ways reach) hx hb hK hP hD hS 3 rfl hi (k := (t.toNatClampNeg)) rfl rfl dX8_text_31 (fun H locs hP hD hS => ?_)
        refine lv_iconst (v := (0)) hx hb dX8_text_32 (by decide) ?_
        refine lv_istore_n (lv' := [(3, .int (0 : Int32)), (0, .ref (a 0)), (1, .int t), (2, .int n)]) hx hb dX8_text_33 rfl hl (by decide) rfl (fun ls hl => ?_)
        obtain ⟨zn, h⟩ := h
        exact w_34  zn (upd textSizes (t.toNatClampNeg) n) texts finding findings (0 : Int32) h _ _ hP hD hS ls (lv_sub hl [1, 2, 3, 0] rfl)
      · have h := h.2 hc
        refine lv_aload_n hx hb dX8_text_19 rfl (lv_at hl 0 rfl) ?_
        refine lv_iconst (v := (5)) hx hb dX8_text_20 (by decide) ?_
        refine wr_calli (ws1 := fun zu => W_X8 ca a rowSizes rows textSizes texts now keeps kept asked upper lower zu.1 zu.2 read at_ costs ways reach) (wr := ([] : List Nat).filterMap (fun zi => (W_X8 ca a rowSizes rows textSizes texts now keeps kept asked upper lower finding findings read at_ costs ways reach : va_W)[zi]?)) (n := 13) (va_runV (As := [.int (5 : Int32)]) (rest := []) ⟨hx, hb, hml, hown, hts⟩ (c_X8_found l D ca a rowSizes rows textSizes texts now keeps kept asked upper lower finding findings read at_ costs ways reach (5 : Int32) _ (hD.subM [0, 1, 2, 3, 4, 5, 6, 7, 8, 9, 10, 11, 12] (by decide) rfl) h) (cwV 1 hts gX8_text_X8_found rfl rfl rfl (by decide +kernel) ⟨Nat.le_of_ble_eq_true rfl, Nat.le_of_ble_eq_true rfl⟩) (PcX.preV (q := (RX8, TX8, 17)) (ci := 7) (q0 := 0) hK hP rfl rfl hP) rfl rfl hl.1 rfl (lv_room (Nat.le_of_ble_eq_true rfl)) dX8_text_21 ⟨Nat.le_of_ble_eq_true rfl, Nat.le_of_ble_eq_true rfl⟩) hP hD hS [0, 1, 2, 3, 4, 5, 6, 7, 8, 9, 10, 11, 12] [] rfl (fun _ => rfl) rfl (fun _ => rfl) (fun _ => rfl) (fun _ => rfl) (by decide +kernel) (by decide +kernel) (fun r2 zu H locs h hP hD hS => ?_)
        obtain ⟨finding_3, findings_4⟩ := zu
        have hP : va_P D vwCl (W_X8 ca a rowSizes rows textSizes texts now keeps kept asked upper lower finding_3 findings_4 read at_ costs ways reach) H := hP
        have hD : va_D _ (W_X8 ca a rowSizes rows textSizes texts now keeps kept asked upper lower finding_3 findings_4 read at_ costs ways reach) := hD
        try dsimp only at h
        exact W.iret (v := r2) hx hb hr (fun zt ht hW => ⟨⟨r2, (textSizes, texts, finding_3, findings_4), rfl, h, by rw [ht]; exact hP⟩, hS.F ht⟩) hS.2.2 dX8_text_24
    · have h := h.2 hc
      refine lv_iconst (v := (-1)) hx hb dX8_text_13 (by decide) ?_
      exact W.iret (v := (-1 : Int32)) hx hb hr (fun zt ht hW => ⟨⟨(-1 : Int32), (textSizes, texts, finding, findings), rfl, h, by rw [ht]; exact hP⟩, hS.F ht⟩) hS.2.2 dX8_text_14

-- IronedQuarrelsModel.put(III)I
def wp_X8_put (textSizes : Nat → Int32) (texts : Nat → Int32) (finding : Int32) (findings : Nat → Int32) (t : Int32) (i : Int32) (v : Int32) (post : Int32 → (Nat → Int32) → (Int32) → (Nat → Int32) → Prop) : Prop :=
  wp_X8_isText t (fun r1 => (¬ r1 = 0 → (vp_in t 4 ∧ (0 ≤ (textSizes t.toNatClampNeg) → (vp_in t 4 ∧ wp_X8_in i.toInt64 (0 : Int64) (((textSizes t.toNatClampNeg) - (1 : Int32)).toInt64) (fun r2 => (¬ r2 = 0 → (vp_in (((80 : Int32) * t) + i) 320 ∧ vp_in (((80 : Int32) * t) + i) 320 ∧ post ((texts (((80 : Int32) * t) + i).toNatClampNeg) + (1000 : Int32)) (upd texts ((((80 : Int32) * t) + i).toNatClampNeg) v.toInt8.toInt32) finding findings)) ∧ (r2 = 0 → (wp_X8_found findings (2 : Int32) (fun r3 finding_4 findings_5 => post r3 texts finding_4 findings_5)))))) ∧ (¬ 0 ≤ (textSizes t.toNatClampNeg) → (wp_X8_found findings (1 : Int32) (fun r6 finding_7 findings_8 => post r6 texts finding_7 findings_8))))) ∧ (r1 = 0 → (post (-1 : Int32) texts finding findings)))
def rm_X8_put : Room := { frames := 2, cells := 0, slots := 0, locals := 45 }
theorem k_X8_put_1 : Cond.fieldLink RX8 16 "IronedQuarrelsModel" "textSizes" "[I" ∈ wsX8_put := List.mem_of_getElem? (i := 1) (by decide +kernel)
theorem k_X8_put_2 : Cond.fieldLink RX8 19 "IronedQuarrelsModel" "texts" "[I" ∈ wsX8_put := List.mem_of_getElem? (i := 2) (by decide +kernel)
theorem hi_X8_put_X8 : ∀ w ∈ wsX80, w ∈ wsX8_put := fun w h => List.mem_cons_of_mem _ (List.mem_append_right _ h)
set_option maxHeartbeats 4000000 in
set_option maxRecDepth 100000 in
theorem c_X8_put (l : Launch) (D : va_G) (ca : Nat → ClassId) (a : Nat → Nat) (rowSizes : Nat → Int32) (rows : Nat → Int32) (textSizes : Nat → Int32) (texts : Nat → Int32) (now : Nat → Int32) (keeps : Nat → Int32) (kept : Nat → Int32) (asked : Int32) (upper : Int64) (lower : Int64) (finding : Int32) (findings : Nat → Int32) (read : Nat → Int32) (at_ : Int32) (costs : Nat → Int32) (ways : Nat → Int64) (reach : Nat → Int32) (t : Int32) (i : Int32) (v : Int32) (post : Int32 → (Nat → Int32) → (Int32) → (Nat → Int32) → Prop) (hd : va_D (fun _ => True) (W_X8 ca a rowSizes rows textSizes texts now keeps kept asked upper lower finding findings read at_ costs ways reach)) (h : wp_X8_put textSizes texts finding findings t i v post) : Met l yX8_put wsX8_put rm_X8_put (PcX D ca [.ref (a 0), .int t, .int i, .int v] (W_X8 ca a rowSizes rows textSizes texts now keeps kept asked upper lower finding findings read at_ costs ways reach)) (wrI (S := (Nat → Int32) × (Int32) × (Nat → Int32)) D (W_X8 ca a rowSizes rows textSizes texts now keeps kept asked upper lower finding findings read at_ costs ways reach) (fun zu => W_X8 ca a rowSizes rows textSizes zu.1 now keeps kept asked upper lower zu.2.1 zu.2.2 read at_ costs ways reach) (fun zr zu => post zr zu.1 zu.2.1 zu.2.2)) 0 0 (adr (W_X8 ca a rowSizes rows textSizes texts now keeps kept asked upper lower finding findings read at_ costs ways reach)) := by
  refine Met.ofW (cc := cX8_put) (maxL := 5) (ret := (some .int)) (by decide) rfl ?_
  intro zp ze zs zm za zb zt zc z1 B hml hv
  obtain ⟨rfl, hP, hK⟩ := hv
  have hx := B.exec
  have hb := B.bytes
  have hr := B.returns
  have hts := atoms_spec (ws := wsX8_put) B.pre
  have hown : zs.vm.findClass RX8 = some zm.cls := findClass_of_methodNamed B.named
  have hlocks := B.notSynchronized
  have hD : va_D (adr (W_X8 ca a rowSizes rows textSizes texts now keeps kept asked upper lower finding findings read at_ costs ways reach)) (W_X8 ca a rowSizes rows textSizes texts now keeps kept asked upper lower finding findings read at_ costs ways reach) := hd.adr
  have hS : va_S (adr (W_X8 ca a rowSizes rows textSizes texts now keeps kept asked upper lower finding findings read at_ costs ways reach)) zs.heap zs.heap [] := va_S.rf
  have hl := lv_entry ([.ref (a 0), .int t, .int i, .int v]) (n := 5) (Nat.le_of_ble_eq_true rfl)
  rw [lg_entry_eq]
  generalize (lg_sl ([.ref (a 0), .int t, .int i, .int v]) ++ List.replicate (5 - (lg_sl ([.ref (a 0), .int t, .int i, .int v])).length) Slot.unset).toArray = ls at hl ⊢
  replace hl : lv_has ls 5 [(0, .ref (a 0)), (1, .int t), (2, .int i), (3, .int v)] := hl
  show W zp l ze rm_X8_put zs zm ([.ref (a 0), .int t, .int i, .int v] : List Value).toArray zb zt zc zs.heap [] 0 0 (MQ zb (wrI (S := (Nat → Int32) × (Int32) × (Nat → Int32)) D (W_X8 ca a rowSizes rows textSizes texts now keeps kept asked upper lower finding findings read at_ costs ways reach) (fun zu => W_X8 ca a rowSizes rows textSizes zu.1 now keeps kept asked upper lower zu.2.1 zu.2.2 read at_ costs ways reach) (fun zr zu => post zr zu.1 zu.2.1 zu.2.2)) ([.ref (a 0), .int t, .int i, .int v] : List Value).toArray zs 0 0 (adr (W_X8 ca a rowSizes rows textSizes texts now keeps kept asked upper lower finding findings read at_ costs ways reach))) (F0 zm 0 ls [])
  unfold wp_X8_put at h
  refine lv_iload_n hx hb dX8_put_0 rfl (lv_at hl 1 rfl) ?_
  refine rd_callz (va_runS (As := [.int t]) (rest := []) ⟨hx, hb, hml, hown, hts⟩ (c_X8_isText l D ca   t _ h) (va_cwS 1 hts gX8_put_X8_isText rfl rfl rfl (by decide +kernel) ⟨Nat.le_of_ble_eq_true rfl, Nat.le_of_ble_eq_true rfl⟩) (PcX.preS hK (fun zk zq zh => by simp at zh)) rfl rfl hl.1 rfl (lv_room (Nat.le_of_ble_eq_true rfl)) dX8_put_1 ⟨Nat.le_of_ble_eq_true rfl, Nat.le_of_ble_eq_true rfl⟩) (fun r1 h hz_r1 => ?_)
  try dsimp only at h
  refine lv_if_ne (tgt := 9) hx hb dX8_put_4 (by decide) (fun hc => ?_) (fun hc => ?_)
  · have h := h.1 hc
    refine lv_aload_n hx hb dX8_put_9 rfl (lv_at hl 0 rfl) ?_
    refine va_get (D := D) (ci := 7) (v := .ref (a 3)) (C := RX8) (T := TX8) (N := 17) hx hb hts hi_X8_put_X8 hown hK.1 hP 0 rfl rfl 2 (by decide) (hts _ k_X8_put_1) (fun _ h9 => h9) rfl dX8_put_10 ?_
    refine lv_iload_n hx hb dX8_put_13 rfl (lv_at hl 1 rfl) ?_
    obtain ⟨hi, h⟩ := h
    refine x_iald (v := textSizes t.toNatClampNeg) hx hb hK hP 3 rfl hi rfl dX8_put_14 ?_
    refine lv_if_ge (tgt := 24) hx hb dX8_put_15 (by decide) (fun hc => ?_) (fun hc => ?_)
    · have h := h.1 hc
      refine lv_iload_n hx hb dX8_put_24 rfl (lv_at hl 2 rfl) ?_
      refine lv_i2l hx hb dX8_put_25 rfl ?_
      refine lv_lconst (v := (0)) hx hb dX8_put_26 (by decide) ?_
      refine lv_aload_n hx hb dX8_put_27 rfl (lv_at hl 0 rfl) ?_
      refine va_get (D := D) (ci := 7) (v := .ref (a 3)) (C := RX8) (T := TX8) (N := 17) hx hb hts hi_X8_put_X8 hown hK.1 hP 0 rfl rfl 2 (by decide) (hts _ k_X8_put_1) (fun _ h9 => h9) rfl dX8_put_28 ?_
      refine lv_iload_n hx hb dX8_put_31 rfl (lv_at hl 1 rfl) ?_
      obtain ⟨hi, h⟩ := h
      refine x_iald (v := textSizes t.toNatClampNeg) hx hb hK hP 3 rfl hi rfl dX8_put_32 ?_
      refine lv_iconst (v := (1)) hx hb dX8_put_33 (by decide) ?_
      refine lv_isub hx hb dX8_put_34 ?_
      refine lv_i2l hx hb dX8_put_35 rfl ?_
      refine rd_callz (va_runS (As := [.long i.toInt64, .long (0 : Int64), .long (((textSizes t.toNatClampNeg) - (1 : Int32)).toInt64)]) (rest := []) ⟨hx, hb, hml, hown, hts⟩ (c_X8_in l D ca   i.toInt64 (0 : Int64) (((textSizes t.toNatClampNeg) - (1 : Int32)).toInt64) _ h) (va_cwS 3 hts gX8_put_X8_in rfl rfl rfl (by decide +kernel) ⟨Nat.le_of_ble_eq_true rfl, Nat.le_of_ble_eq_true rfl⟩) (PcX.preS hK (fun zk zq zh => by simp at zh)) rfl rfl hl.1 rfl (lv_room (Nat.le_of_ble_eq_true rfl)) dX8_put_36 ⟨Nat.le_of_ble_eq_true rfl, Nat.le_of_ble_eq_true rfl⟩) (fun r2 h hz_r2 => ?_)
      try dsimp only at h
      refine lv_if_ne (tgt := 48) hx hb dX8_put_39 (by decide) (fun hc => ?_) (fun hc => ?_)
      · have h := h.1 hc
        refine lv_aload_n hx hb dX8_put_48 rfl (lv_at hl 0 rfl) ?_
        refine va_get (D := D) (ci := 7) (v := .ref (a 4)) (C := RX8) (T := TX8) (N := 17) hx hb hts hi_X8_put_X8 hown hK.1 hP 0 rfl rfl 3 (by decide) (hts _ k_X8_put_2) (fun _ h9 => h9) rfl dX8_put_49 ?_
        refine lv_bipush (v := (80)) hx hb dX8_put_52 (by decide) ?_
        refine lv_iload_n hx hb dX8_put_54 rfl (lv_at hl 1 rfl) ?_
        refine lv_imul hx hb dX8_put_55 ?_
        refine lv_iload_n hx hb dX8_put_56 rfl (lv_at hl 2 rfl) ?_
        refine lv_iadd hx hb dX8_put_57 ?_
        obtain ⟨hi, h⟩ := h
        refine x_iald (v := texts (((80 : Int32) * t) + i).toNatClampNeg) hx hb hK hP 4 rfl hi rfl dX8_put_58 ?_
        refine lv_istore (lv' := [(4, .int (texts (((80 : Int32) * t) + i).toNatClampNeg)), (0, .ref (a 0)), (1, .int t), (2, .int i), (3, .int v)]) hx hb dX8_put_59 hl (by decide) rfl (fun ls hl => ?_)
        refine lv_aload_n hx hb dX8_put_61 rfl (lv_at hl 1 rfl) ?_
        refine va_get (D := D) (ci := 7) (v := .ref (a 4)) (C := RX8) (T := TX8) (N := 17) hx hb hts hi_X8_put_X8 hown hK.1 hP 0 rfl rfl 3 (by decide) (hts _ k_X8_put_2) (fun _ h9 => h9) rfl dX8_put_62 ?_
        refine lv_bipush (v := (80)) hx hb dX8_put_65 (by decide) ?_
        refine lv_iload_n hx hb dX8_put_67 rfl (lv_at hl 2 rfl) ?_
        refine lv_imul hx hb dX8_put_68 ?_
        refine lv_iload_n hx hb dX8_put_69 rfl (lv_at hl 3 rfl) ?_
        refine lv_iadd hx hb dX8_put_70 ?_
        refine lv_iload_n hx hb dX8_put_71 rfl (lv_at hl 4 rfl) ?_
        refine lv_i2b hx hb dX8_put_72 rfl ?_
        obtain ⟨hi, h⟩ := h
        refine x_iast (ws' := W_X8 ca a rowSizes rows textSizes (upd texts ((((80 : Int32) * t) + i).toNatClampNeg) v.toInt8.toInt32) now keeps kept asked upper lower finding findings read at_ costs ways reach) hx hb hK hP hD hS 4 rfl hi (k := ((((80 : Int32) * t) + i).toNatClampNeg)) rfl rfl dX8_put_73 (fun H locs hP hD hS => ?_)
        refine lv_iload hx hb dX8_put_74 (lv_at hl 0 rfl) ?_
        refine lv_sipush (v := (1000)) hx hb dX8_put_76 (by decide) ?_
        refine lv_iadd hx hb dX8_put_79 ?_
        exact W.iret (v := (texts (((80 : Int32) * t) + i).toNatClampNeg) + (1000 : Int32)) hx hb hr (fun zt ht hW => ⟨⟨(texts (((80 : Int32) * t) + i).toNatClampNeg) + (1000 : Int32), (upd texts ((((80 : Int32) * t) + i).toNatClampNeg) v.toInt8.toInt32, finding, findings), rfl, h, by rw [ht]; exact hP⟩, hS.F ht⟩) hS.2.2 dX8_put_80
      · have h := h.2 hc
        refine lv_aload_n hx hb dX8_put_42 rfl (lv_at hl 0 rfl) ?_
        refine lv_iconst (v := (2)) hx hb dX8_put_43 (by decide) ?_
        refine wr_calli (ws1 := fun zu => W_X8 ca a rowSizes rows textSizes texts now keeps kept asked upper lower zu.1 zu.2 read at_ costs ways reach) (wr := ([] : List Nat).filterMap (fun zi => (W_X8 ca a rowSizes rows textSizes texts now keeps kept asked upper lower finding findings read at_ costs ways reach : va_W)[zi]?)) (n := 13) (va_runV (As := [.int (2 : Int32)]) (rest := []) ⟨hx, hb, hml, hown, hts⟩ (c_X8_found l D ca a rowSizes rows textSizes texts now keeps kept asked upper lower finding findings read at_ costs ways reach (2 : Int32) _ (hD.subM [0, 1, 2, 3, 4, 5, 6, 7, 8, 9, 10, 11, 12] (by decide) rfl) h) (cwV 1 hts gX8_put_X8_found rfl rfl rfl (by decide +kernel) ⟨Nat.le_of_ble_eq_true rfl, Nat.le_of_ble_eq_true rfl⟩) (PcX.preV (q := (RX8, TX8, 17)) (ci := 7) (q0 := 0) hK hP rfl rfl hP) rfl rfl hl.1 rfl (lv_room (Nat.le_of_ble_eq_true rfl)) dX8_put_44 ⟨Nat.le_of_ble_eq_true rfl, Nat.le_of_ble_eq_true rfl⟩) hP hD hS [0, 1, 2, 3, 4, 5, 6, 7, 8, 9, 10, 11, 12] [] rfl (fun _ => rfl) rfl (fun _ => rfl) (fun _ => rfl) (fun _ => rfl) (by decide +kernel) (by decide +kernel) (fun r3 zu H locs h hP hD hS => ?_)
        obtain ⟨finding_4, findings_5⟩ := zu
        have hP : va_P D vwCl (W_X8 ca a rowSizes rows textSizes texts now keeps kept asked upper lower finding_4 findings_5 read at_ costs ways reach) H := hP
        have hD : va_D _ (W_X8 ca a rowSizes rows textSizes texts now keeps kept asked upper lower finding_4 findings_5 read at_ costs ways reach) := hD
        try dsimp only at h
        exact W.iret (v := r3) hx hb hr (fun zt ht hW => ⟨⟨r3, (texts, finding_4, findings_5), rfl, h, by rw [ht]; exact hP⟩, hS.F ht⟩) hS.2.2 dX8_put_47
    · have h := h.2 hc
      refine lv_aload_n hx hb dX8_put_18 rfl (lv_at hl 0 rfl) ?_
      refine lv_iconst (v := (1)) hx hb dX8_put_19 (by decide) ?_
      refine wr_calli (ws1 := fun zu => W_X8 ca a rowSizes rows textSizes texts now keeps kept asked upper lower zu.1 zu.2 read at_ costs ways reach) (wr := ([] : List Nat).filterMap (fun zi => (W_X8 ca a rowSizes rows textSizes texts now keeps kept asked upper lower finding findings read at_ costs ways reach : va_W)[zi]?)) (n := 13) (va_runV (As := [.int (1 : Int32)]) (rest := []) ⟨hx, hb, hml, hown, hts⟩ (c_X8_found l D ca a rowSizes rows textSizes texts now keeps kept asked upper lower finding findings read at_ costs ways reach (1 : Int32) _ (hD.subM [0, 1, 2, 3, 4, 5, 6, 7, 8, 9, 10, 11, 12] (by decide) rfl) h) (cwV 1 hts gX8_put_X8_found rfl rfl rfl (by decide +kernel) ⟨Nat.le_of_ble_eq_true rfl, Nat.le_of_ble_eq_true rfl⟩) (PcX.preV (q := (RX8, TX8, 17)) (ci := 7) (q0 := 0) hK hP rfl rfl hP) rfl rfl hl.1 rfl (lv_room (Nat.le_of_ble_eq_true rfl)) dX8_put_20 ⟨Nat.le_of_ble_eq_true rfl, Nat.le_of_ble_eq_true rfl⟩) hP hD hS [0, 1, 2, 3, 4, 5, 6, 7, 8, 9, 10, 11, 12] [] rfl (fun _ => rfl) rfl (fun _ => rfl) (fun _ => rfl) (fun _ => rfl) (by decide +kernel) (by decide +kernel) (fun r6 zu H locs h hP hD hS => ?_)
      obtain ⟨finding_7, findings_8⟩ := zu
      have hP : va_P D vwCl (W_X8 ca a rowSizes rows textSizes texts now keeps kept asked upper lower finding_7 findings_8 read at_ costs ways reach) H := hP
      have hD : va_D _ (W_X8 ca a rowSizes rows textSizes texts now keeps kept asked upper lower finding_7 findings_8 read at_ costs ways reach) := hD
      try dsimp only at h
      exact W.iret (v := r6) hx hb hr (fun zt ht hW => ⟨⟨r6, (texts, finding_7, findings_8), rfl, h, by rw [ht]; exact hP⟩, hS.F ht⟩) hS.2.2 dX8_put_23
  · have h := h.2 hc
    refine lv_iconst (v := (-1)) hx hb dX8_put_7 (by decide) ?_
    exact W.iret (v := (-1 : Int32)) hx hb hr (fun zt ht hW => ⟨⟨(-1 : Int32), (texts, finding, findings), rfl, h, by rw [ht]; exact hP⟩, hS.F ht⟩) hS.2.2 dX8_put_8

-- IronedQuarrelsModel.byteAt(I)I
def wp_X8_byteAt (textSizes : Nat → Int32) (texts : Nat → Int32) (at_ : Int32) (t : Int32) (post : Int32 → Prop) : Prop :=
  vp_in t 4 ∧ ((textSizes t.toNatClampNeg) ≤ at_ → (post (-1000 : Int32))) ∧ (¬ (textSizes t.toNatClampNeg) ≤ at_ → (vp_in (((80 : Int32) * t) + at_) 320 ∧ post (texts (((80 : Int32) * t) + at_).toNatClampNeg)))
def rm_X8_byteAt : Room := { frames := 0, cells := 0, slots := 0, locals := 0 }
theorem k_X8_byteAt_1 : Cond.fieldLink RX8 81 "IronedQuarrelsModel" "at" "I" ∈ wsX8_byteAt := List.mem_of_getElem? (i := 1) (by decide +kernel)
theorem k_X8_byteAt_2 : Cond.fieldLink RX8 16 "IronedQuarrelsModel" "textSizes" "[I" ∈ wsX8_byteAt := List.mem_of_getElem? (i := 2) (by decide +kernel)
theorem k_X8_byteAt_3 : Cond.fieldLink RX8 19 "IronedQuarrelsModel" "texts" "[I" ∈ wsX8_byteAt := List.mem_of_getElem? (i := 3) (by decide +kernel)
theorem hi_X8_byteAt_X8 : ∀ w ∈ wsX80, w ∈ wsX8_byteAt := fun w h => List.mem_cons_of_mem _ (List.mem_append_right _ h)
set_option maxHeartbeats 4000000 in
set_option maxRecDepth 100000 in
theorem c_X8_byteAt (l : Launch) (D : va_G) (ca : Nat → ClassId) (a : Nat → Nat) (rowSizes : Nat → Int32) (rows : Nat → Int32) (textSizes : Nat → Int32) (texts : Nat → Int32) (now : Nat → Int32) (keeps : Nat → Int32) (kept : Nat → Int32) (asked : Int32) (upper : Int64) (lower : Int64) (finding : Int32) (findings : Nat → Int32) (read : Nat → Int32) (at_ : Int32) (costs : Nat → Int32) (ways : Nat → Int64) (reach : Nat → Int32) (t : Int32) (post : Int32 → Prop) (h : wp_X8_byteAt textSizes texts at_ t post) : Met l yX8_byteAt wsX8_byteAt rm_X8_byteAt (PcX D ca [.ref (a 0), .int t] (W_X8 ca a rowSizes rows textSizes texts now keeps kept asked upper lower finding findings read at_ costs ways reach)) (rdI post) 0 0 (fun _ => False) := by
  refine Met.ofW (cc := cX8_byteAt) (maxL := 2) (ret := (some .int)) (by decide) rfl ?_
  intro zp ze zs zm za zb zt zc z1 B hml hv
  obtain ⟨rfl, hP, hK⟩ := hv
  have hx := B.exec
  have hb := B.bytes
  have hr := B.returns
  have hts := atoms_spec (ws := wsX8_byteAt) B.pre
  have hown : zs.vm.findClass RX8 = some zm.cls := findClass_of_methodNamed B.named
  have hlocks := B.notSynchronized
  have hl := lv_entry ([.ref (a 0), .int t]) (n := 2) (Nat.le_of_ble_eq_true rfl)
  rw [lg_entry_eq]
  generalize (lg_sl ([.ref (a 0), .int t]) ++ List.replicate (2 - (lg_sl ([.ref (a 0), .int t])).length) Slot.unset).toArray = ls at hl ⊢
  replace hl : lv_has ls 2 [(0, .ref (a 0)), (1, .int t)] := hl
  show W zp l ze rm_X8_byteAt zs zm ([.ref (a 0), .int t] : List Value).toArray zb zt zc zs.heap [] 0 0 (MQ zb (rdI post) ([.ref (a 0), .int t] : List Value).toArray zs 0 0 (fun _ => False)) (F0 zm 0 ls [])
  unfold wp_X8_byteAt at h
  refine lv_aload_n hx hb dX8_byteAt_0 rfl (lv_at hl 0 rfl) ?_
  refine va_get (D := D) (ci := 7) (v := .int at_) (C := RX8) (T := TX8) (N := 17) hx hb hts hi_X8_byteAt_X8 hown hK.1 hP 0 rfl rfl 13 (by decide) (hts _ k_X8_byteAt_1) (fun _ h9 => h9) rfl dX8_byteAt_1 ?_
  refine lv_aload_n hx hb dX8_byteAt_4 rfl (lv_at hl 0 rfl) ?_
  refine va_get (D := D) (ci := 7) (v := .ref (a 3)) (C := RX8) (T := TX8) (N := 17) hx hb hts hi_X8_byteAt_X8 hown hK.1 hP 0 rfl rfl 2 (by decide) (hts _ k_X8_byteAt_2) (fun _ h9 => h9) rfl dX8_byteAt_5 ?_
  refine lv_iload_n hx hb dX8_byteAt_8 rfl (lv_at hl 1 rfl) ?_
  obtain ⟨hi, h⟩ := h
  refine x_iald (v := textSizes t.toNatClampNeg) hx hb hK hP 3 rfl hi rfl dX8_byteAt_9 ?_
  refine lv_icmp_ge (tgt := 30) hx hb dX8_byteAt_10 (by decide) (fun hc => ?_) (fun hc => ?_)
  · have h := h.1 hc
    refine lv_sipush (v := (-1000)) hx hb dX8_byteAt_30 (by decide) ?_
    exact W.iret (v := (-1000 : Int32)) hx hb hr (fun zt ht hW => ⟨(-1000 : Int32), rfl, h, ht⟩) (fun zq hq => absurd hq List.not_mem_nil) dX8_byteAt_33
  · have h := h.2 hc
    refine lv_aload_n hx hb dX8_byteAt_13 rfl (lv_at hl 0 rfl) ?_
    refine va_get (D := D) (ci := 7) (v := .ref (a 4)) (C := RX8) (T := TX8) (N := 17) hx hb hts hi_X8_byteAt_X8 hown hK.1 hP 0 rfl rfl 3 (by decide) (hts _ k_X8_byteAt_3) (fun _ h9 => h9) rfl dX8_byteAt_14 ?_
    refine lv_bipush (v := (80)) hx hb dX8_byteAt_17 (by decide) ?_
    refine lv_iload_n hx hb dX8_byteAt_19 rfl (lv_at hl 1 rfl) ?_
    refine lv_imul hx hb dX8_byteAt_20 ?_
    refine lv_aload_n hx hb dX8_byteAt_21 rfl (lv_at hl 0 rfl) ?_
    refine va_get (D := D) (ci := 7) (v := .int at_) (C := RX8) (T := TX8) (N := 17) hx hb hts hi_X8_byteAt_X8 hown hK.1 hP 0 rfl rfl 13 (by decide) (hts _ k_X8_byteAt_1) (fun _ h9 => h9) rfl dX8_byteAt_22 ?_
    refine lv_iadd hx hb dX8_byteAt_25 ?_
    obtain ⟨hi, h⟩ := h
    refine x_iald (v := texts (((80 : Int32) * t) + at_).toNatClampNeg) hx hb hK hP 4 rfl hi rfl dX8_byteAt_26 ?_
    refine lv_goto (tgt := 33) hx hb dX8_byteAt_27 (by decide) ?_
    exact W.iret (v := texts (((80 : Int32) * t) + at_).toNatClampNeg) hx hb hr (fun zt ht hW => ⟨texts (((80 : Int32) * t) + at_).toNatClampNeg, rfl, h, ht⟩) (fun zq hq => absurd hq List.not_mem_nil) dX8_byteAt_33

-- IronedQuarrelsModel.takes(IIII)Z
def wp_X8_takes (textSizes : Nat → Int32) (texts : Nat → Int32) (read : Nat → Int32) (at_ : Int32) (t : Int32) (place : Int32) (least : Int32) (most : Int32) (post : Int32 → (Nat → Int32) → (Int32) → Prop) : Prop :=
  wp_X8_byteAt textSizes texts at_ t (fun r1 => wp_X8_in ((r1 - (48 : Int32)).toInt64) least.toInt64 most.toInt64 (fun r2 => (¬ r2 = 0 → (vp_in place 115 ∧ post (1 : Int32) (upd read (place.toNatClampNeg) (r1 - (48 : Int32))) (at_ + (1 : Int32)))) ∧ (r2 = 0 → (post (0 : Int32) read at_))))
def rm_X8_takes : Room := { frames := 1, cells := 0, slots := 0, locals := 25 }
theorem k_X8_takes_1 : Cond.fieldLink RX8 39 "IronedQuarrelsModel" "read" "[I" ∈ wsX8_takes := List.mem_of_getElem? (i := 1) (by decide +kernel)
theorem k_X8_takes_2 : Cond.fieldLink RX8 81 "IronedQuarrelsModel" "at" "I" ∈ wsX8_takes := List.mem_of_getElem? (i := 2) (by decide +kernel)
theorem hi_X8_takes_X8 : ∀ w ∈ wsX80, w ∈ wsX8_takes := fun w h => List.mem_cons_of_mem _ (List.mem_append_right _ h)
set_option maxHeartbeats 4000000 in
set_option maxRecDepth 100000 in
theorem c_X8_takes (l : Launch) (D : va_G) (ca : Nat → ClassId) (a : Nat → Nat) (rowSizes : Nat → Int32) (rows : Nat → Int32) (textSizes : Nat → Int32) (texts : Nat → Int32) (now : Nat → Int32) (keeps : Nat → Int32) (kept : Nat → Int32) (asked : Int32) (upper : Int64) (lower : Int64) (finding : Int32) (findings : Nat → Int32) (read : Nat → Int32) (at_ : Int32) (costs : Nat → Int32) (ways : Nat → Int64) (reach : Nat → Int32) (t : Int32) (place : Int32) (least : Int32) (most : Int32) (post : Int32 → (Nat → Int32) → (Int32) → Prop) (hd : va_D (fun _ => True) (W_X8 ca a rowSizes rows textSizes texts now keeps kept asked upper lower finding findings read at_ costs ways reach)) (h : wp_X8_takes textSizes texts read at_ t place least most post) : Met l yX8_takes wsX8_takes rm_X8_takes (PcX D ca [.ref (a 0), .int t, .int place, .int least, .int most] (W_X8 ca a rowSizes rows textSizes texts now keeps kept asked upper lower finding findings read at_ costs ways reach)) (wrZ (S := (Nat → Int32) × (Int32)) D (W_X8 ca a rowSizes rows textSizes texts now keeps kept asked upper lower finding findings read at_ costs ways reach) (fun zu => W_X8 ca a rowSizes rows textSizes texts now keeps kept asked upper lower finding findings zu.1 zu.2 costs ways reach) (fun zr zu => post zr zu.1 zu.2)) 0 0 (adr (W_X8 ca a rowSizes rows textSizes texts now keeps kept asked upper lower finding findings read at_ costs ways reach)) := by
  refine Met.ofW (cc := cX8_takes) (maxL := 6) (ret := (some .boolean)) (by decide) rfl ?_
  intro zp ze zs zm za zb zt zc z1 B hml hv
  obtain ⟨rfl, hP, hK⟩ := hv
  have hx := B.exec
  have hb := B.bytes
  have hr := B.returns
  have hts := atoms_spec (ws := wsX8_takes) B.pre
  have hown : zs.vm.findClass RX8 = some zm.cls := findClass_of_methodNamed B.named
  have hlocks := B.notSynchronized
  have hD : va_D (adr (W_X8 ca a rowSizes rows textSizes texts now keeps kept asked upper lower finding findings read at_ costs ways reach)) (W_X8 ca a rowSizes rows textSizes texts now keeps kept asked upper lower finding findings read at_ costs ways reach) := hd.adr
  have hS : va_S (adr (W_X8 ca a rowSizes rows textSizes texts now keeps kept asked upper lower finding findings read at_ costs ways reach)) zs.heap zs.heap [] := va_S.rf
  have hl := lv_entry ([.ref (a 0), .int t, .int place, .int least, .int most]) (n := 6) (Nat.le_of_ble_eq_true rfl)
  rw [lg_entry_eq]
  generalize (lg_sl ([.ref (a 0), .int t, .int place, .int least, .int most]) ++ List.replicate (6 - (lg_sl ([.ref (a 0), .int t, .int place, .int least, .int most])).length) Slot.unset).toArray = ls at hl ⊢
  replace hl : lv_has ls 6 [(0, .ref (a 0)), (1, .int t), (2, .int place), (3, .int least), (4, .int most)] := hl
  show W zp l ze rm_X8_takes zs zm ([.ref (a 0), .int t, .int place, .int least, .int most] : List Value).toArray zb zt zc zs.heap [] 0 0 (MQ zb (wrZ (S := (Nat → Int32) × (Int32)) D (W_X8 ca a rowSizes rows textSizes texts now keeps kept asked upper lower finding findings read at_ costs ways reach) (fun zu => W_X8 ca a rowSizes rows textSizes texts now keeps kept asked upper lower finding findings zu.1 zu.2 costs ways reach) (fun zr zu => post zr zu.1 zu.2)) ([.ref (a 0), .int t, .int place, .int least, .int most] : List Value).toArray zs 0 0 (adr (W_X8 ca a rowSizes rows textSizes texts now keeps kept asked upper lower finding findings read at_ costs ways reach))) (F0 zm 0 ls [])
  unfold wp_X8_takes at h
  refine lv_aload_n hx hb dX8_takes_0 rfl (lv_at hl 0 rfl) ?_
  refine lv_iload_n hx hb dX8_takes_1 rfl (lv_at hl 1 rfl) ?_
  refine rd_calli (va_runV (As := [.int t]) (rest := []) ⟨hx, hb, hml, hown, hts⟩ (c_X8_byteAt l D ca a rowSizes rows textSizes texts now keeps kept asked upper lower finding findings read at_ costs ways reach t _ h) (cwV 1 hts gX8_takes_X8_byteAt rfl rfl rfl (by decide +kernel) ⟨Nat.le_of_ble_eq_true rfl, Nat.le_of_ble_eq_true rfl⟩) (PcX.preV (q := (RX8, TX8, 17)) (ci := 7) (q0 := 0) hK hP rfl rfl hP) rfl rfl hl.1 rfl (lv_room (Nat.le_of_ble_eq_true rfl)) dX8_takes_2 ⟨Nat.le_of_ble_eq_true rfl, Nat.le_of_ble_eq_true rfl⟩) (fun r1 h => ?_)
  try dsimp only at h
  refine lv_bipush (v := (48)) hx hb dX8_takes_5 (by decide) ?_
  refine lv_isub hx hb dX8_takes_7 ?_
  refine lv_istore (lv' := [(5, .int (r1 - (48 : Int32))), (0, .ref (a 0)), (1, .int t), (2, .int place), (3, .int least), (4, .int most)]) hx hb dX8_takes_8 hl (by decide) rfl (fun ls hl => ?_)
  refine lv_iload hx hb dX8_takes_10 (lv_at hl 0 rfl) ?_
  refine lv_i2l hx hb dX8_takes_12 rfl ?_
  refine lv_iload_n hx hb dX8_takes_13 rfl (lv_at hl 4 rfl) ?_
  refine lv_i2l hx hb dX8_takes_14 rfl ?_
  refine lv_iload hx hb dX8_takes_15 (lv_at hl 5 rfl) ?_
  refine lv_i2l hx hb dX8_takes_17 rfl ?_
  refine rd_callz (va_runS (As := [.long ((r1 - (48 : Int32)).toInt64), .long least.toInt64, .long most.toInt64]) (rest := []) ⟨hx, hb, hml, hown, hts⟩ (c_X8_in l D ca   ((r1 - (48 : Int32)).toInt64) least.toInt64 most.toInt64 _ h) (va_cwS 3 hts gX8_takes_X8_in rfl rfl rfl (by decide +kernel) ⟨Nat.le_of_ble_eq_true rfl, Nat.le_of_ble_eq_true rfl⟩) (PcX.preS hK (fun zk zq zh => by simp at zh)) rfl rfl hl.1 rfl (lv_room (Nat.le_of_ble_eq_true rfl)) dX8_takes_18 ⟨Nat.le_of_ble_eq_true rfl, Nat.le_of_ble_eq_true rfl⟩) (fun r2 h hz_r2 => ?_)
  try dsimp only at h
  refine lv_if_ne (tgt := 26) hx hb dX8_takes_21 (by decide) (fun hc => ?_) (fun hc => ?_)
  · have h := h.1 hc
    refine lv_aload_n hx hb dX8_takes_26 rfl (lv_at hl 1 rfl) ?_
    refine va_get (D := D) (ci := 7) (v := .ref (a 9)) (C := RX8) (T := TX8) (N := 17) hx hb hts hi_X8_takes_X8 hown hK.1 hP 0 rfl rfl 12 (by decide) (hts _ k_X8_takes_1) (fun _ h9 => h9) rfl dX8_takes_27 ?_
    refine lv_iload_n hx hb dX8_takes_30 rfl (lv_at hl 3 rfl) ?_
    refine lv_iload hx hb dX8_takes_31 (lv_at hl 0 rfl) ?_
    obtain ⟨hi, h⟩ := h
    refine x_iast (ws' := W_X8 ca a rowSizes rows textSizes texts now keeps kept asked upper lower finding findings (upd read (place.toNatClampNeg) (r1 - (48 : Int32))) at_ costs ways reach) hx hb hK hP hD hS 9 rfl hi (k := (place.toNatClampNeg)) rfl rfl dX8_takes_33 (fun H locs hP hD hS => ?_)
    refine lv_aload_n hx hb dX8_takes_34 rfl (lv_at hl 1 rfl) ?_
    refine lv_dup hx hb dX8_takes_35 rfl ?_
    refine va_get (D := D) (ci := 7) (v := .int at_) (C := RX8) (T := TX8) (N := 17) hx hb hts hi_X8_takes_X8 hown hK.1 hP 0 rfl rfl 13 (by decide) (hts _ k_X8_takes_2) (fun _ h9 => h9) rfl dX8_takes_36 ?_
    refine lv_iconst (v := (1)) hx hb dX8_takes_39 (by decide) ?_
    refine lv_iadd hx hb dX8_takes_40 ?_
    refine va_put (D := D) (ci := 7) (v := .int (at_ + (1 : Int32))) (ty := .int) (C := RX8) (T := TX8) (N := 17) hx hb hts hi_X8_takes_X8 tyX8 tyX8_ok nmX8 hown hK.1 hP hD hS 0 rfl rfl 13 (by decide) (hts _ k_X8_takes_2) (fun _ h9 => h9) rfl (by decide +kernel) rfl rfl (Nat.le_of_ble_eq_true rfl) dX8_takes_41 (fun H locs hP hD hS => ?_)
    have hP : va_P D vwCl (W_X8 ca a rowSizes rows textSizes texts now keeps kept asked upper lower finding findings (upd read (place.toNatClampNeg) (r1 - (48 : Int32))) (at_ + (1 : Int32)) costs ways reach) H := hP
    have hD : va_D _ (W_X8 ca a rowSizes rows textSizes texts now keeps kept asked upper lower finding findings (upd read (place.toNatClampNeg) (r1 - (48 : Int32))) (at_ + (1 : Int32)) costs ways reach) := hD
    refine lv_iconst (v := (1)) hx hb dX8_takes_44 (by decide) ?_
    exact W.zret (v := (1 : Int32)) hx hb hr nar1 (fun zt ht hW => ⟨⟨(1 : Int32), (upd read (place.toNatClampNeg) (r1 - (48 : Int32)), at_ + (1 : Int32)), rfl, ⟨h, nar1⟩, by rw [ht]; exact hP⟩, hS.F ht⟩) hS.2.2 dX8_takes_45
  · have h := h.2 hc
    refine lv_iconst (v := (0)) hx hb dX8_takes_24 (by decide) ?_
    exact W.zret (v := (0 : Int32)) hx hb hr nar0 (fun zt ht hW => ⟨⟨(0 : Int32), (read, at_), rfl, ⟨h, nar0⟩, by rw [ht]; exact hP⟩, hS.F ht⟩) hS.2.2 dX8_takes_25

-- IronedQuarrelsModel.kindOf(I)I
def wp_X8_kindOf (c : Int32) (post : Int32 → Prop) : Prop :=
  (¬ c = (115 : Int32) → ((¬ c = (111 : Int32) → ((¬ c = (116 : Int32) → ((¬ c = (112 : Int32) → ((¬ c = (121 : Int32) → ((¬ c = (99 : Int32) → (post (-1 : Int32))) ∧ (c = (99 : Int32) → (post (5 : Int32))))) ∧ (c = (121 : Int32) → (post (4 : Int32))))) ∧ (c = (112 : Int32) → (post (3 : Int32))))) ∧ (c = (116 : Int32) → (post (2 : Int32))))) ∧ (c = (111 : Int32) → (post (1 : Int32))))) ∧ (c = (115 : Int32) → (post (0 : Int32)))
def rm_X8_kindOf : Room := { frames := 0, cells := 0, slots := 0, locals := 0 }
set_option maxHeartbeats 4000000 in
set_option maxRecDepth 100000 in
theorem c_X8_kindOf (l : Launch) (D : va_G) (ca : Nat → ClassId)   (c : Int32) (post : Int32 → Prop) (h : wp_X8_kindOf c post) : Met l yX8_kindOf wsX8_kindOf rm_X8_kindOf (PcX D ca [.int c] ([])) (rdI post) 0 0 (fun _ => False) := by
  refine Met.ofW (cc := cX8_kindOf) (maxL := 1) (ret := (some .int)) (by decide) rfl ?_
  intro zp ze zs zm za zb zt zc z1 B hml hv
  obtain ⟨rfl, hP, hK⟩ := hv
  have hx := B.exec
  have hb := B.bytes
  have hr := B.returns
  have hts := atoms_spec (ws := wsX8_kindOf) B.pre
  have hown : zs.vm.findClass RX8 = some zm.cls := findClass_of_methodNamed B.named
  have hlocks := B.notSynchronized
  have hl := lv_entry ([.int c]) (n := 1) (Nat.le_of_ble_eq_true rfl)
  rw [lg_entry_eq]
  generalize (lg_sl ([.int c]) ++ List.replicate (1 - (lg_sl ([.int c])).length) Slot.unset).toArray = ls at hl ⊢
  replace hl : lv_has ls 1 [(0, .int c)] := hl
  show W zp l ze rm_X8_kindOf zs zm ([.int c] : List Value).toArray zb zt zc zs.heap [] 0 0 (MQ zb (rdI post) ([.int c] : List Value).toArray zs 0 0 (fun _ => False)) (F0 zm 0 ls [])
  unfold wp_X8_kindOf at h
  refine lv_iload_n hx hb dX8_kindOf_0 rfl (lv_at hl 0 rfl) ?_
  refine lv_bipush (v := (115)) hx hb dX8_kindOf_1 (by decide) ?_
  refine lv_icmp_ne (tgt := 10) hx hb dX8_kindOf_3 (by decide) (fun hc => ?_) (fun hc => ?_)
  · have h := h.1 hc
    refine lv_iload_n hx hb dX8_kindOf_10 rfl (lv_at hl 0 rfl) ?_
    refine lv_bipush (v := (111)) hx hb dX8_kindOf_11 (by decide) ?_
    refine lv_icmp_ne (tgt := 20) hx hb dX8_kindOf_13 (by decide) (fun hc => ?_) (fun hc => ?_)
    · have h := h.1 hc
      refine lv_iload_n hx hb dX8_kindOf_20 rfl (lv_at hl 0 rfl) ?_
      refine lv_bipush (v := (116)) hx hb dX8_kindOf_21 (by decide) ?_
      refine lv_icmp_ne (tgt := 30) hx hb dX8_kindOf_23 (by decide) (fun hc => ?_) (fun hc => ?_)
      · have h := h.1 hc
        refine lv_iload_n hx hb dX8_kindOf_30 rfl (lv_at hl 0 rfl) ?_
        refine lv_bipush (v := (112)) hx hb dX8_kindOf_31 (by decide) ?_
        refine lv_icmp_ne (tgt := 40) hx hb dX8_kindOf_33 (by decide) (fun hc => ?_) (fun hc => ?_)
        · have h := h.1 hc
          refine lv_iload_n hx hb dX8_kindOf_40 rfl (lv_at hl 0 rfl) ?_
          refine lv_bipush (v := (121)) hx hb dX8_kindOf_41 (by decide) ?_
          refine lv_icmp_ne (tgt := 50) hx hb dX8_kindOf_43 (by decide) (fun hc => ?_) (fun hc => ?_)
          · have h := h.1 hc
            refine lv_iload_n hx hb dX8_kindOf_50 rfl (lv_at hl 0 rfl) ?_
            refine lv_bipush (v := (99)) hx hb dX8_kindOf_51 (by decide) ?_
            refine lv_icmp_ne (tgt := 60) hx hb dX8_kindOf_53 (by decide) (fun hc => ?_) (fun hc => ?_)
            · have h := h.1 hc
              refine lv_iconst (v := (-1)) hx hb dX8_kindOf_60 (by decide) ?_
              exact W.iret (v := (-1 : Int32)) hx hb hr (fun zt ht hW => ⟨(-1 : Int32), rfl, h, ht⟩) (fun zq hq => absurd hq List.not_mem_nil) dX8_kindOf_61
            · have h := h.2 hc
              refine lv_iconst (v := (5)) hx hb dX8_kindOf_56 (by decide) ?_
              refine lv_goto (tgt := 61) hx hb dX8_kindOf_57 (by decide) ?_
              exact W.iret (v := (5 : Int32)) hx hb hr (fun zt ht hW => ⟨(5 : Int32), rfl, h, ht⟩) (fun zq hq => absurd hq List.not_mem_nil) dX8_kindOf_61
          · have h := h.2 hc
            refine lv_iconst (v := (4)) hx hb dX8_kindOf_46 (by decide) ?_
            refine lv_goto (tgt := 61) hx hb dX8_kindOf_47 (by decide) ?_
            exact W.iret (v := (4 : Int32)) hx hb hr (fun zt ht hW => ⟨(4 : Int32), rfl, h, ht⟩) (fun zq hq => absurd hq List.not_mem_nil) dX8_kindOf_61
        · have h := h.2 hc
          refine lv_iconst (v := (3)) hx hb dX8_kindOf_36 (by decide) ?_
          refine lv_goto (tgt := 61) hx hb dX8_kindOf_37 (by decide) ?_
          exact W.iret (v := (3 : Int32)) hx hb hr (fun zt ht hW => ⟨(3 : Int32), rfl, h, ht⟩) (fun zq hq => absurd hq List.not_mem_nil) dX8_kindOf_61
      · have h := h.2 hc
        refine lv_iconst (v := (2)) hx hb dX8_kindOf_26 (by decide) ?_
        refine lv_goto (tgt := 61) hx hb dX8_kindOf_27 (by decide) ?_
        exact W.iret (v := (2 : Int32)) hx hb hr (fun zt ht hW => ⟨(2 : Int32), rfl, h, ht⟩) (fun zq hq => absurd hq List.not_mem_nil) dX8_kindOf_61
    · have h := h.2 hc
      refine lv_iconst (v := (1)) hx hb dX8_kindOf_16 (by decide) ?_
      refine lv_goto (tgt := 61) hx hb dX8_kindOf_17 (by decide) ?_
      exact W.iret (v := (1 : Int32)) hx hb hr (fun zt ht hW => ⟨(1 : Int32), rfl, h, ht⟩) (fun zq hq => absurd hq List.not_mem_nil) dX8_kindOf_61
  · have h := h.2 hc
    refine lv_iconst (v := (0)) hx hb dX8_kindOf_6 (by decide) ?_
    refine lv_goto (tgt := 61) hx hb dX8_kindOf_7 (by decide) ?_
    exact W.iret (v := (0 : Int32)) hx hb hr (fun zt ht hW => ⟨(0 : Int32), rfl, h, ht⟩) (fun zq hq => absurd hq List.not_mem_nil) dX8_kindOf_61

-- IronedQuarrelsModel.takesSaying(I)Z
def wb_X8_takesSaying_194 (post : Int32 → (Nat → Int32) → (Int32) → Prop) (read : Nat → Int32) (at_ : Int32) (s0 : Int32) (s1 : Int32) : Prop :=
  vp_in s1 115 ∧ post (1 : Int32) (upd (upd read (s1.toNatClampNeg) s0) 0 (((upd read (s1.toNatClampNeg) s0) 0) + (1 : Int32))) at_
def wb_X8_takesSaying_164 (post : Int32 → (Nat → Int32) → (Int32) → Prop) (read : Nat → Int32) (at_ : Int32) (x2 : Int32) (x4 : Int32) : Prop :=
  (0 ≤ x4 → (wb_X8_takesSaying_194 post read (at_ + (1 : Int32)) x4 ((63 : Int32) + x2))) ∧ (¬ 0 ≤ x4 → (wb_X8_takesSaying_194 post read (at_ + (1 : Int32)) (-9 : Int32) ((63 : Int32) + x2)))
def wp_X8_takesSaying (textSizes : Nat → Int32) (texts : Nat → Int32) (read : Nat → Int32) (at_ : Int32) (t : Int32) (post : Int32 → (Nat → Int32) → (Int32) → Prop) : Prop :=
  wp_X8_byteAt textSizes texts at_ t (fun r1 => wp_X8_kindOf r1 (fun r2 => (r2 < 0 → (post (0 : Int32) read at_)) ∧ (¬ r2 < 0 → ((¬ (read 0) = (12 : Int32) → (vp_in ((3 : Int32) + (read 0)) 115 ∧ wp_X8_takes textSizes texts (upd read (((3 : Int32) + (read 0)).toNatClampNeg) r2) (at_ + (1 : Int32)) t ((15 : Int32) + (read 0)) (0 : Int32) (5 : Int32) (fun r3 read_4 at__5 => (¬ r3 = 0 → (wp_X8_byteAt textSizes texts at__5 t (fun r6 => vp_in ((15 : Int32) + (read 0)) 115 ∧ ((r6 - (48 : Int32)) = (read_4 ((15 : Int32) + (read 0)).toNatClampNeg) → (post (0 : Int32) read_4 at__5)) ∧ (¬ (r6 - (48 : Int32)) = (read_4 ((15 : Int32) + (read 0)).toNatClampNeg) → (wp_X8_takes textSizes texts read_4 at__5 t ((27 : Int32) + (read 0)) (0 : Int32) (5 : Int32) (fun r7 read_8 at__9 => (r7 = 0 → (post (0 : Int32) read_8 at__9)) ∧ (¬ r7 = 0 → (wp_X8_takes textSizes texts read_8 at__9 t ((39 : Int32) + (read 0)) (0 : Int32) (5 : Int32) (fun r10 read_11 at__12 => (r10 = 0 → (post (0 : Int32) read_11 at__12)) ∧ (¬ r10 = 0 → (wp_X8_takes textSizes texts read_11 at__12 t ((51 : Int32) + (read 0)) (1 : Int32) (9 : Int32) (fun r13 read_14 at__15 => (¬ r13 = 0 → (wp_X8_byteAt textSizes texts at__15 t (fun r16 => wp_X8_byteAt textSizes texts at__15 t (fun r17 => (r17 = (45 : Int32) → (wb_X8_takesSaying_164 post read_14 at__15 (read 0) (r16 - (65 : Int32)))) ∧ (¬ r17 = (45 : Int32) → (wp_X8_in ((r16 - (65 : Int32)).toInt64) (0 : Int64) (((read 0) - (1 : Int32)).toInt64) (fun r18 => (¬ r18 = 0 → (wb_X8_takesSaying_164 post read_14 at__15 (read 0) (r16 - (65 : Int32)))) ∧ (r18 = 0 → (post (0 : Int32) read_14 at__15))))))))) ∧ (r13 = 0 → (post (0 : Int32) read_14 at__15)))))))))))))) ∧ (r3 = 0 → (post (0 : Int32) read_4 at__5))))) ∧ ((read 0) = (12 : Int32) → (post (0 : Int32) read at_))))))
def rm_X8_takesSaying : Room := { frames := 2, cells := 0, slots := 0, locals := 50 }
theorem k_X8_takesSaying_1 : Cond.fieldLink RX8 39 "IronedQuarrelsModel" "read" "[I" ∈ wsX8_takesSaying := List.mem_of_getElem? (i := 1) (by decide +kernel)
theorem k_X8_takesSaying_2 : Cond.fieldLink RX8 81 "IronedQuarrelsModel" "at" "I" ∈ wsX8_takesSaying := List.mem_of_getElem? (i := 2) (by decide +kernel)
theorem hi_X8_takesSaying_X8 : ∀ w ∈ wsX80, w ∈ wsX8_takesSaying := fun w h => List.mem_cons_of_mem _ (List.mem_append_right _ h)
set_option maxHeartbeats 4000000 in
set_option maxRecDepth 100000 in
theorem c_X8_takesSaying (l : Launch) (D : va_G) (ca : Nat → ClassId) (a : Nat → Nat) (rowSizes : Nat → Int32) (rows : Nat → Int32) (textSizes : Nat → Int32) (texts : Nat → Int32) (now : Nat → Int32) (keeps : Nat → Int32) (kept : Nat → Int32) (asked : Int32) (upper : Int64) (lower : Int64) (finding : Int32) (findings : Nat → Int32) (read : Nat → Int32) (at_ : Int32) (costs : Nat → Int32) (ways : Nat → Int64) (reach : Nat → Int32) (t : Int32) (post : Int32 → (Nat → Int32) → (Int32) → Prop) (hd : va_D (fun _ => True) (W_X8 ca a rowSizes rows textSizes texts now keeps kept asked upper lower finding findings read at_ costs ways reach)) (h : wp_X8_takesSaying textSizes texts read at_ t post) : Met l yX8_takesSaying wsX8_takesSaying rm_X8_takesSaying (PcX D ca [.ref (a 0), .int t] (W_X8 ca a rowSizes rows textSizes texts now keeps kept asked upper lower finding findings read at_ costs ways reach)) (wrZ (S := (Nat → Int32) × (Int32)) D (W_X8 ca a rowSizes rows textSizes texts now keeps kept asked upper lower finding findings read at_ costs ways reach) (fun zu => W_X8 ca a rowSizes rows textSizes texts now keeps kept asked upper lower finding findings zu.1 zu.2 costs ways reach) (fun zr zu => post zr zu.1 zu.2)) 0 0 (adr (W_X8 ca a rowSizes rows textSizes texts now keeps kept asked upper lower finding findings read at_ costs ways reach)) := by
  refine Met.ofW (cc := cX8_takesSaying) (maxL := 5) (ret := (some .boolean)) (by decide) rfl ?_
  intro zp ze zs zm za zb zt zc z1 B hml hv
  obtain ⟨rfl, hP, hK⟩ := hv
  have hx := B.exec
  have hb := B.bytes
  have hr := B.returns
  have hts := atoms_spec (ws := wsX8_takesSaying) B.pre
  have hown : zs.vm.findClass RX8 = some zm.cls := findClass_of_methodNamed B.named
  have hlocks := B.notSynchronized
  have hD : va_D (adr (W_X8 ca a rowSizes rows textSizes texts now keeps kept asked upper lower finding findings read at_ costs ways reach)) (W_X8 ca a rowSizes rows textSizes texts now keeps kept asked upper lower finding findings read at_ costs ways reach) := hd.adr
  have hS : va_S (adr (W_X8 ca a rowSizes rows textSizes texts now keeps kept asked upper lower finding findings read at_ costs ways reach)) zs.heap zs.heap [] := va_S.rf
  have hl := lv_entry ([.ref (a 0), .int t]) (n := 5) (Nat.le_of_ble_eq_true rfl)
  rw [lg_entry_eq]
  generalize (lg_sl ([.ref (a 0), .int t]) ++ List.replicate (5 - (lg_sl ([.ref (a 0), .int t])).length) Slot.unset).toArray = ls at hl ⊢
  replace hl : lv_has ls 5 [(0, .ref (a 0)), (1, .int t)] := hl
  show W zp l ze rm_X8_takesSaying zs zm ([.ref (a 0), .int t] : List Value).toArray zb zt zc zs.heap [] 0 0 (MQ zb (wrZ (S := (Nat → Int32) × (Int32)) D (W_X8 ca a rowSizes rows textSizes texts now keeps kept asked upper lower finding findings read at_ costs ways reach) (fun zu => W_X8 ca a rowSizes rows textSizes texts now keeps kept asked upper lower finding findings zu.1 zu.2 costs ways reach) (fun zr zu => post zr zu.1 zu.2)) ([.ref (a 0), .int t] : List Value).toArray zs 0 0 (adr (W_X8 ca a rowSizes rows textSizes texts now keeps kept asked upper lower finding findings read at_ costs ways reach))) (F0 zm 0 ls [])
  have w_194 : ∀ (read : Nat → Int32) (at_ : Int32) (s0 : Int32) (s1 : Int32), wb_X8_takesSaying_194 post read at_ s0 s1 → ∀ (H : Heap) (locs : List Loc), va_P D vwCl (W_X8 ca a rowSizes rows textSizes texts now keeps kept asked upper lower finding findings read at_ costs ways reach) H → va_D (adr (W_X8 ca a rowSizes rows textSizes texts now keeps kept asked upper lower finding findings read at_ costs ways reach)) (W_X8 ca a rowSizes rows textSizes texts now keeps kept asked upper lower finding findings read at_ costs ways reach) → va_S (adr (W_X8 ca a rowSizes rows textSizes texts now keeps kept asked upper lower finding findings read at_ costs ways reach)) zs.heap H locs → ∀ ls : Array Slot, lv_has ls 5 [(0, .ref (a 0))] → W zp l ze rm_X8_takesSaying zs zm ([.ref (a 0), .int t] : List Value).toArray zb zt zc H locs 0 0 (MQ zb (wrZ (S := (Nat → Int32) × (Int32)) D (W_X8 ca a rowSizes rows textSizes texts now keeps kept asked upper lower finding findings read at_ costs ways reach) (fun zu => W_X8 ca a rowSizes rows textSizes texts now keeps kept asked upper lower finding findings zu.1 zu.2 costs ways reach) (fun zr zu => post zr zu.1 zu.2)) ([.ref (a 0), .int t] : List Value).toArray zs 0 0 (adr (W_X8 ca a rowSizes rows textSizes texts now keeps kept asked upper lower finding findings read at_ costs ways reach))) (F0 zm 194 ls [.int s0, .int s1, .ref (a 9)]) := by
    intro read at_ s0 s1 h H locs hP hD hS ls hl
    unfold wb_X8_takesSaying_194 at h
    obtain ⟨hi, h⟩ := h
    refine x_iast (ws' := W_X8 ca a rowSizes rows textSizes texts now keeps kept asked upper lower finding findings (upd read (s1.toNatClampNeg) s0) at_ costs ways reach) hx hb hK hP hD hS 9 rfl hi (k := (s1.toNatClampNeg)) rfl rfl dX8_takesSaying_194 (fun H locs hP hD hS => ?_)
    refine lv_aload_n hx hb dX8_takesSaying_195 rfl (lv_at hl 0 rfl) ?_
    refine va_get (D := D) (ci := 7) (v := .ref (a 9)) (C := RX8) (T := TX8) (N := 17) hx hb hts hi_X8_takesSaying_X8 hown hK.1 hP 0 rfl rfl 12 (by decide) (hts _ k_X8_takesSaying_1) (fun _ h9 => h9) rfl dX8_takesSaying_196 ?_
    refine lv_iconst (v := (0)) hx hb dX8_takesSaying_199 (by decide) ?_
    refine lv_dup2_11 hx hb dX8_takesSaying_200 rfl rfl ?_
    refine x_iald (v := (upd read (s1.toNatClampNeg) s0) 0) hx hb hK hP 9 rfl (vin_lit (by decide)) rfl dX8_takesSaying_201 ?_
    refine lv_iconst (v := (1)) hx hb dX8_takesSaying_202 (by decide) ?_
    refine lv_iadd hx hb dX8_takesSaying_203 ?_
    refine x_iast (ws' := W_X8 ca a rowSizes rows textSizes texts now keeps kept asked upper lower finding findings (upd (upd read (s1.toNatClampNeg) s0) 0 (((upd read (s1.toNatClampNeg) s0) 0) + (1 : Int32))) at_ costs ways reach) hx hb hK hP hD hS 9 rfl (vin_lit (by decide)) (k := 0) rfl rfl dX8_takesSaying_204 (fun H locs hP hD hS => ?_)
    refine lv_iconst (v := (1)) hx hb dX8_takesSaying_205 (by decide) ?_
    exact W.zret (v := (1 : Int32)) hx hb hr nar1 (fun zt ht hW => ⟨⟨(1 : Int32), (upd (upd read (s1.toNatClampNeg) s0) 0 (((upd read (s1.toNatClampNeg) s0) 0) + (1 : Int32)), at_), rfl, ⟨h, nar1⟩, by rw [ht]; exact hP⟩, hS.F ht⟩) hS.2.2 dX8_takesSaying_206
  have w_164 : ∀ (read : Nat → Int32) (at_ : Int32) (x2 : Int32) (x4 : Int32), wb_X8_takesSaying_164 post read at_ x2 x4 → ∀ (H : Heap) (locs : List Loc), va_P D vwCl (W_X8 ca a rowSizes rows textSizes texts now keeps kept asked upper lower finding findings read at_ costs ways reach) H → va_D (adr (W_X8 ca a rowSizes rows textSizes texts now keeps kept asked upper lower finding findings read at_ costs ways reach)) (W_X8 ca a rowSizes rows textSizes texts now keeps kept asked upper lower finding findings read at_ costs ways reach) → va_S (adr (W_X8 ca a rowSizes rows textSizes texts now keeps kept asked upper lower finding findings read at_ costs ways reach)) zs.heap H locs → ∀ ls : Array Slot, lv_has ls 5 [(0, .ref (a 0)), (2, .int x2), (4, .int x4)] → W zp l ze rm_X8_takesSaying zs zm ([.ref (a 0), .int t] : List Value).toArray zb zt zc H locs 0 0 (MQ zb (wrZ (S := (Nat → Int32) × (Int32)) D (W_X8 ca a rowSizes rows textSizes texts now keeps kept asked upper lower finding findings read at_ costs ways reach) (fun zu => W_X8 ca a rowSizes rows textSizes texts now keeps kept asked upper lower finding findings zu.1 zu.2 costs ways reach) (fun zr zu => post zr zu.1 zu.2)) ([.ref (a 0), .int t] : List Value).toArray zs 0 0 (adr (W_X8 ca a rowSizes rows textSizes texts now keeps kept asked upper lower finding findings read at_ costs ways reach))) (F0 zm 164 ls []) := by
    intro read at_ x2 x4 h H locs hP hD hS ls hl
    unfold wb_X8_takesSaying_164 at h
    refine lv_aload_n hx hb dX8_takesSaying_164 rfl (lv_at hl 0 rfl) ?_
    refine lv_dup hx hb dX8_takesSaying_165 rfl ?_
    refine va_get (D := D) (ci := 7) (v := .int at_) (C := RX8) (T := TX8) (N := 17) hx hb hts hi_X8_takesSaying_X8 hown hK.1 hP 0 rfl rfl 13 (by decide) (hts _ k_X8_takesSaying_2) (fun _ h9 => h9) rfl dX8_takesSaying_166 ?_
    refine lv_iconst (v := (1)) hx hb dX8_takesSaying_169 (by decide) ?_
    refine lv_iadd hx hb dX8_takesSaying_170 ?_
    refine va_put (D := D) (ci := 7) (v := .int (at_ + (1 : Int32))) (ty := .int) (C := RX8) (T := TX8) (N := 17) hx hb hts hi_X8_takesSaying_X8 tyX8 tyX8_ok nmX8 hown hK.1 hP hD hS 0 rfl rfl 13 (by decide) (hts _ k_X8_takesSaying_2) (fun _ h9 => h9) rfl (by decide +kernel) rfl rfl (Nat.le_of_ble_eq_true rfl) dX8_takesSaying_171 (fun H locs hP hD hS => ?_)
    have hP : va_P D vwCl (W_X8 ca a rowSizes rows textSizes texts now keeps kept asked upper lower finding findings read (at_ + (1 : Int32)) costs ways reach) H := hP
    have hD : va_D _ (W_X8 ca a rowSizes rows textSizes texts now keeps kept asked upper lower finding findings read (at_ + (1 : Int32)) costs ways reach) := hD
    refine lv_aload_n hx hb dX8_takesSaying_174 rfl (lv_at hl 0 rfl) ?_
    refine va_get (D := D) (ci := 7) (v := .ref (a 9)) (C := RX8) (T := TX8) (N := 17) hx hb hts hi_X8_takesSaying_X8 hown hK.1 hP 0 rfl rfl 12 (by decide) (hts _ k_X8_takesSaying_1) (fun _ h9 => h9) rfl dX8_takesSaying_175 ?_
    refine lv_bipush (v := (63)) hx hb dX8_takesSaying_178 (by decide) ?_
    refine lv_iload_n hx hb dX8_takesSaying_180 rfl (lv_at hl 1 rfl) ?_
    refine lv_iadd hx hb dX8_takesSaying_181 ?_
    refine lv_iload hx hb dX8_takesSaying_182 (lv_at hl 2 rfl) ?_
    refine lv_if_ge (tgt := 192) hx hb dX8_takesSaying_184 (by decide) (fun hc => ?_) (fun hc => ?_)
    · have h := h.1 hc
      refine lv_iload hx hb dX8_takesSaying_192 (lv_at hl 2 rfl) ?_
      exact w_194  read (at_ + (1 : Int32)) x4 ((63 : Int32) + x2) h _ _ hP hD hS ls (lv_sub hl [0] rfl)
    · have h := h.2 hc
      refine lv_bipush (v := (-9)) hx hb dX8_takesSaying_187 (by decide) ?_
      refine lv_goto (tgt := 194) hx hb dX8_takesSaying_189 (by decide) ?_
      exact w_194  read (at_ + (1 : Int32)) (-9 : Int32) ((63 : Int32) + x2) h _ _ hP hD hS ls (lv_sub hl [0] rfl)
  unfold wp_X8_takesSaying at h
  refine lv_aload_n hx hb dX8_takesSaying_0 rfl (lv_at hl 0 rfl) ?_
  refine va_get (D := D) (ci := 7) (v := .ref (a 9)) (C := RX8) (T := TX8) (N := 17) hx hb hts hi_X8_takesSaying_X8 hown hK.1 hP 0 rfl rfl 12 (by decide) (hts _ k_X8_takesSaying_1) (fun _ h9 => h9) rfl dX8_takesSaying_1 ?_
  refine lv_iconst (v := (0)) hx hb dX8_takesSaying_4 (by decide) ?_
  refine x_iald (v := read 0) hx hb hK hP 9 rfl (vin_lit (by decide)) rfl dX8_takesSaying_5 ?_
  refine lv_istore_n (lv' := [(2, .int (read 0)), (0, .ref (a 0)), (1, .int t)]) hx hb dX8_takesSaying_6 rfl hl (by decide) rfl (fun ls hl => ?_)
  refine lv_aload_n hx hb dX8_takesSaying_7 rfl (lv_at hl 1 rfl) ?_
  refine lv_iload_n hx hb dX8_takesSaying_8 rfl (lv_at hl 2 rfl) ?_
  refine rd_calli (va_runV (As := [.int t]) (rest := []) ⟨hx, hb, hml, hown, hts⟩ (c_X8_byteAt l D ca a rowSizes rows textSizes texts now keeps kept asked upper lower finding findings read at_ costs ways reach t _ h) (cwV 1 hts gX8_takesSaying_X8_byteAt rfl rfl rfl (by decide +kernel) ⟨Nat.le_of_ble_eq_true rfl, Nat.le_of_ble_eq_true rfl⟩) (PcX.preV (q := (RX8, TX8, 17)) (ci := 7) (q0 := 0) hK hP rfl rfl hP) rfl rfl hl.1 rfl (lv_room (Nat.le_of_ble_eq_true rfl)) dX8_takesSaying_9 ⟨Nat.le_of_ble_eq_true rfl, Nat.le_of_ble_eq_true rfl⟩) (fun r1 h => ?_)
  try dsimp only at h
  refine rd_calli (va_runS (As := [.int r1]) (rest := []) ⟨hx, hb, hml, hown, hts⟩ (c_X8_kindOf l D ca   r1 _ h) (va_cwS 1 hts gX8_takesSaying_X8_kindOf rfl rfl rfl (by decide +kernel) ⟨Nat.le_of_ble_eq_true rfl, Nat.le_of_ble_eq_true rfl⟩) (PcX.preS hK (fun zk zq zh => by simp at zh)) rfl rfl hl.1 rfl (lv_room (Nat.le_of_ble_eq_true rfl)) dX8_takesSaying_12 ⟨Nat.le_of_ble_eq_true rfl, Nat.le_of_ble_eq_true rfl⟩) (fun r2 h => ?_)
  try dsimp only at h
  refine lv_istore_n (lv' := [(3, .int r2), (2, .int (read 0)), (0, .ref (a 0)), (1, .int t)]) hx hb dX8_takesSaying_15 rfl hl (by decide) rfl (fun ls hl => ?_)
  refine lv_iload_n hx hb dX8_takesSaying_16 rfl (lv_at hl 0 rfl) ?_
  refine lv_if_lt (tgt := 26) hx hb dX8_takesSaying_17 (by decide) (fun hc => ?_) (fun hc => ?_)
  · have h := h.1 hc
    refine lv_iconst (v := (0)) hx hb dX8_takesSaying_26 (by decide) ?_
    exact W.zret (v := (0 : Int32)) hx hb hr nar0 (fun zt ht hW => ⟨⟨(0 : Int32), (read, at_), rfl, ⟨h, nar0⟩, by rw [ht]; exact hP⟩, hS.F ht⟩) hS.2.2 dX8_takesSaying_27
  · have h := h.2 hc
    refine lv_iload_n hx hb dX8_takesSaying_20 rfl (lv_at hl 1 rfl) ?_
    refine lv_bipush (v := (12)) hx hb dX8_takesSaying_21 (by decide) ?_
    refine lv_icmp_ne (tgt := 28) hx hb dX8_takesSaying_23 (by decide) (fun hc => ?_) (fun hc => ?_)
    · have h := h.1 hc
      refine lv_aload_n hx hb dX8_takesSaying_28 rfl (lv_at hl 2 rfl) ?_
      refine lv_dup hx hb dX8_takesSaying_29 rfl ?_
      refine va_get (D := D) (ci := 7) (v := .int at_) (C := RX8) (T := TX8) (N := 17) hx hb hts hi_X8_takesSaying_X8 hown hK.1 hP 0 rfl rfl 13 (by decide) (hts _ k_X8_takesSaying_2) (fun _ h9 => h9) rfl dX8_takesSaying_30 ?_
      refine lv_iconst (v := (1)) hx hb dX8_takesSaying_33 (by decide) ?_
      refine lv_iadd hx hb dX8_takesSaying_34 ?_
      refine va_put (D := D) (ci := 7) (v := .int (at_ + (1 : Int32))) (ty := .int) (C := RX8) (T := TX8) (N := 17) hx hb hts hi_X8_takesSaying_X8 tyX8 tyX8_ok nmX8 hown hK.1 hP hD hS 0 rfl rfl 13 (by decide) (hts _ k_X8_takesSaying_2) (fun _ h9 => h9) rfl (by decide +kernel) rfl rfl (Nat.le_of_ble_eq_true rfl) dX8_takesSaying_35 (fun H locs hP hD hS => ?_)
      have hP : va_P D vwCl (W_X8 ca a rowSizes rows textSizes texts now keeps kept asked upper lower finding findings read (at_ + (1 : Int32)) costs ways reach) H := hP
      have hD : va_D _ (W_X8 ca a rowSizes rows textSizes texts now keeps kept asked upper lower finding findings read (at_ + (1 : Int32)) costs ways reach) := hD
      refine lv_aload_n hx hb dX8_takesSaying_38 rfl (lv_at hl 2 rfl) ?_
      refine va_get (D := D) (ci := 7) (v := .ref (a 9)) (C := RX8) (T := TX8) (N := 17) hx hb hts hi_X8_takesSaying_X8 hown hK.1 hP 0 rfl rfl 12 (by decide) (hts _ k_X8_takesSaying_1) (fun _ h9 => h9) rfl dX8_takesSaying_39 ?_
      refine lv_iconst (v := (3)) hx hb dX8_takesSaying_42 (by decide) ?_
      refine lv_iload_n hx hb dX8_takesSaying_43 rfl (lv_at hl 1 rfl) ?_
      refine lv_iadd hx hb dX8_takesSaying_44 ?_
      refine lv_iload_n hx hb dX8_takesSaying_45 rfl (lv_at hl 0 rfl) ?_
      obtain ⟨hi, h⟩ := h
      refine x_iast (ws' := W_X8 ca a rowSizes rows textSizes texts now keeps kept asked upper lower finding findings (upd read (((3 : Int32) + (read 0)).toNatClampNeg) r2) (at_ + (1 : Int32)) costs ways reach) hx hb hK hP hD hS 9 rfl hi (k := (((3 : Int32) + (read 0)).toNatClampNeg)) rfl rfl dX8_takesSaying_46 (fun H locs hP hD hS => ?_)
      refine lv_aload_n hx hb dX8_takesSaying_47 rfl (lv_at hl 2 rfl) ?_
      refine lv_iload_n hx hb dX8_takesSaying_48 rfl (lv_at hl 3 rfl) ?_
      refine lv_bipush (v := (15)) hx hb dX8_takesSaying_49 (by decide) ?_
      refine lv_iload_n hx hb dX8_takesSaying_51 rfl (lv_at hl 1 rfl) ?_
      refine lv_iadd hx hb dX8_takesSaying_52 ?_
      refine lv_iconst (v := (0)) hx hb dX8_takesSaying_53 (by decide) ?_
      refine lv_iconst (v := (5)) hx hb dX8_takesSaying_54 (by decide) ?_
      refine wr_callz (ws1 := fun zu => W_X8 ca a rowSizes rows textSizes texts now keeps kept asked upper lower finding findings zu.1 zu.2 costs ways reach) (wr := ([] : List Nat).filterMap (fun zi => (W_X8 ca a rowSizes rows textSizes texts now keeps kept asked upper lower finding findings (upd read (((3 : Int32) + (read 0)).toNatClampNeg) r2) (at_ + (1 : Int32)) costs ways reach : va_W)[zi]?)) (n := 13) (va_runV (As := [.int t, .int ((15 : Int32) + (read 0)), .int (0 : Int32), .int (5 : Int32)]) (rest := []) ⟨hx, hb, hml, hown, hts⟩ (c_X8_takes l D ca a rowSizes rows textSizes texts now keeps kept asked upper lower finding findings (upd read (((3 : Int32) + (read 0)).toNatClampNeg) r2) (at_ + (1 : Int32)) costs ways reach t ((15 : Int32) + (read 0)) (0 : Int32) (5 : Int32) _ (hD.subM [0, 1, 2, 3, 4, 5, 6, 7, 8, 9, 10, 11, 12] (by decide) rfl) h) (cwV 4 hts gX8_takesSaying_X8_takes rfl rfl rfl (by decide +kernel) ⟨Nat.le_of_ble_eq_true rfl, Nat.le_of_ble_eq_true rfl⟩) (PcX.preV (q := (RX8, TX8, 17)) (ci := 7) (q0 := 0) hK hP rfl rfl hP) rfl rfl hl.1 rfl (lv_room (Nat.le_of_ble_eq_true rfl)) dX8_takesSaying_55 ⟨Nat.le_of_ble_eq_true rfl, Nat.le_of_ble_eq_true rfl⟩) hP hD hS [0, 1, 2, 3, 4, 5, 6, 7, 8, 9, 10, 11, 12] [] rfl (fun _ => rfl) rfl (fun _ => rfl) (fun _ => rfl) (fun _ => rfl) (by decide +kernel) (by decide +kernel) (fun r3 zu H locs h hz_r3 hP hD hS => ?_)
      obtain ⟨read_4, at__5⟩ := zu
      have hP : va_P D vwCl (W_X8 ca a rowSizes rows textSizes texts now keeps kept asked upper lower finding findings read_4 at__5 costs ways reach) H := hP
      have hD : va_D _ (W_X8 ca a rowSizes rows textSizes texts now keeps kept asked upper lower finding findings read_4 at__5 costs ways reach) := hD
      try dsimp only at h
      refine lv_if_ne (tgt := 63) hx hb dX8_takesSaying_58 (by decide) (fun hc => ?_) (fun hc => ?_)
      · have h := h.1 hc
        refine lv_aload_n hx hb dX8_takesSaying_63 rfl (lv_at hl 2 rfl) ?_
        refine lv_iload_n hx hb dX8_takesSaying_64 rfl (lv_at hl 3 rfl) ?_
        refine rd_calli (va_runV (As := [.int t]) (rest := []) ⟨hx, hb, hml, hown, hts⟩ (c_X8_byteAt l D ca a rowSizes rows textSizes texts now keeps kept asked upper lower finding findings read_4 at__5 costs ways reach t _ h) (cwV 1 hts gX8_takesSaying_X8_byteAt rfl rfl rfl (by decide +kernel) ⟨Nat.le_of_ble_eq_true rfl, Nat.le_of_ble_eq_true rfl⟩) (PcX.preV (q := (RX8, TX8, 17)) (ci := 7) (q0 := 0) hK hP rfl rfl hP) rfl rfl hl.1 rfl (lv_room (Nat.le_of_ble_eq_true rfl)) dX8_takesSaying_65 ⟨Nat.le_of_ble_eq_true rfl, Nat.le_of_ble_eq_true rfl⟩) (fun r6 h => ?_)
        try dsimp only at h
        refine lv_bipush (v := (48)) hx hb dX8_takesSaying_68 (by decide) ?_
        refine lv_isub hx hb dX8_takesSaying_70 ?_
        refine lv_aload_n hx hb dX8_takesSaying_71 rfl (lv_at hl 2 rfl) ?_
        refine va_get (D := D) (ci := 7) (v := .ref (a 9)) (C := RX8) (T := TX8) (N := 17) hx hb hts hi_X8_takesSaying_X8 hown hK.1 hP 0 rfl rfl 12 (by decide) (hts _ k_X8_takesSaying_1) (fun _ h9 => h9) rfl dX8_takesSaying_72 ?_
        refine lv_bipush (v := (15)) hx hb dX8_takesSaying_75 (by decide) ?_
        refine lv_iload_n hx hb dX8_takesSaying_77 rfl (lv_at hl 1 rfl) ?_
        refine lv_iadd hx hb dX8_takesSaying_78 ?_
        obtain ⟨hi, h⟩ := h
        refine x_iald (v := read_4 ((15 : Int32) + (read 0)).toNatClampNeg) hx hb hK hP 9 rfl hi rfl dX8_takesSaying_79 ?_
        refine lv_icmp_eq (tgt := 126) hx hb dX8_takesSaying_80 (by decide) (fun hc => ?_) (fun hc => ?_)
        · have h := h.1 hc
          refine lv_iconst (v := (0)) hx hb dX8_takesSaying_126 (by decide) ?_
          exact W.zret (v := (0 : Int32)) hx hb hr nar0 (fun zt ht hW => ⟨⟨(0 : Int32), (read_4, at__5), rfl, ⟨h, nar0⟩, by rw [ht]; exact hP⟩, hS.F ht⟩) hS.2.2 dX8_takesSaying_127
        · have h := h.2 hc
          refine lv_aload_n hx hb dX8_takesSaying_83 rfl (lv_at hl 2 rfl) ?_
          refine lv_iload_n hx hb dX8_takesSaying_84 rfl (lv_at hl 3 rfl) ?_
          refine lv_bipush (v := (27)) hx hb dX8_takesSaying_85 (by decide) ?_
          refine lv_iload_n hx hb dX8_takesSaying_87 rfl (lv_at hl 1 rfl) ?_
          refine lv_iadd hx hb dX8_takesSaying_88 ?_
          refine lv_iconst (v := (0)) hx hb dX8_takesSaying_89 (by decide) ?_
          refine lv_iconst (v := (5)) hx hb dX8_takesSaying_90 (by decide) ?_
          refine wr_callz (ws1 := fun zu => W_X8 ca a rowSizes rows textSizes texts now keeps kept asked upper lower finding findings zu.1 zu.2 costs ways reach) (wr := ([] : List Nat).filterMap (fun zi => (W_X8 ca a rowSizes rows textSizes texts now keeps kept asked upper lower finding findings read_4 at__5 costs ways reach : va_W)[zi]?)) (n := 13) (va_runV (As := [.int t, .int ((27 : Int32) + (read 0)), .int (0 : Int32), .int (5 : Int32)]) (rest := []) ⟨hx, hb, hml, hown, hts⟩ (c_X8_takes l D ca a rowSizes rows textSizes texts now keeps kept asked upper lower finding findings read_4 at__5 costs ways reach t ((27 : Int32) + (read 0)) (0 : Int32) (5 : Int32) _ (hD.subM [0, 1, 2, 3, 4, 5, 6, 7, 8, 9, 10, 11, 12] (by decide) rfl) h) (cwV 4 hts gX8_takesSaying_X8_takes rfl rfl rfl (by decide +kernel) ⟨Nat.le_of_ble_eq_true rfl, Nat.le_of_ble_eq_true rfl⟩) (PcX.preV (q := (RX8, TX8, 17)) (ci := 7) (q0 := 0) hK hP rfl rfl hP) rfl rfl hl.1 rfl (lv_room (Nat.le_of_ble_eq_true rfl)) dX8_takesSaying_91 ⟨Nat.le_of_ble_eq_true rfl, Nat.le_of_ble_eq_true rfl⟩) hP hD hS [0, 1, 2, 3, 4, 5, 6, 7, 8, 9, 10, 11, 12] [] rfl (fun _ => rfl) rfl (fun _ => rfl) (fun _ => rfl) (fun _ => rfl) (by decide +kernel) (by decide +kernel) (fun r7 zu H locs h hz_r7 hP hD hS => ?_)
          obtain ⟨read_8, at__9⟩ := zu
          have hP : va_P D vwCl (W_X8 ca a rowSizes rows textSizes texts now keeps kept asked upper lower finding findings read_8 at__9 costs ways reach) H := hP
          have hD : va_D _ (W_X8 ca a rowSizes rows textSizes texts now keeps kept asked upper lower finding findings read_8 at__9 costs ways reach) := hD
          try dsimp only at h
          refine lv_if_eq (tgt := 126) hx hb dX8_takesSaying_94 (by decide) (fun hc => ?_) (fun hc => ?_)
          · have h := h.1 hc
            refine lv_iconst (v := (0)) hx hb dX8_takesSaying_126 (by decide) ?_
            exact W.zret (v := (0 : Int32)) hx hb hr nar0 (fun zt ht hW => ⟨⟨(0 : Int32), (read_8, at__9), rfl, ⟨h, nar0⟩, by rw [ht]; exact hP⟩, hS.F ht⟩) hS.2.2 dX8_takesSaying_127
          · have h := h.2 hc
            refine lv_aload_n hx hb dX8_takesSaying_97 rfl (lv_at hl 2 rfl) ?_
            refine lv_iload_n hx hb dX8_takesSaying_98 rfl (lv_at hl 3 rfl) ?_
            refine lv_bipush (v := (39)) hx hb dX8_takesSaying_99 (by decide) ?_
            refine lv_iload_n hx hb dX8_takesSaying_101 rfl (lv_at hl 1 rfl) ?_
            refine lv_iadd hx hb dX8_takesSaying_102 ?_
            refine lv_iconst (v := (0)) hx hb dX8_takesSaying_103 (by decide) ?_
            refine lv_iconst (v := (5)) hx hb dX8_takesSaying_104 (by decide) ?_
            refine wr_callz (ws1 := fun zu => W_X8 ca a rowSizes rows textSizes texts now keeps kept asked upper lower finding findings zu.1 zu.2 costs ways reach) (wr := ([] : List Nat).filterMap (fun zi => (W_X8 ca a rowSizes rows textSizes texts now keeps kept asked upper lower finding findings read_8 at__9 costs ways reach : va_W)[zi]?)) (n := 13) (va_runV (As := [.int t, .int ((39 : Int32) + (read 0)), .int (0 : Int32), .int (5 : Int32)]) (rest := []) ⟨hx, hb, hml, hown, hts⟩ (c_X8_takes l D ca a rowSizes rows textSizes texts now keeps kept asked upper lower finding findings read_8 at__9 costs ways reach t ((39 : Int32) + (read 0)) (0 : Int32) (5 : Int32) _ (hD.subM [0, 1, 2, 3, 4, 5, 6, 7, 8, 9, 10, 11, 12] (by decide) rfl) h) (cwV 4 hts gX8_takesSaying_X8_takes rfl rfl rfl (by decide +kernel) ⟨Nat.le_of_ble_eq_true rfl, Nat.le_of_ble_eq_true rfl⟩) (PcX.preV (q := (RX8, TX8, 17)) (ci := 7) (q0 := 0) hK hP rfl rfl hP) rfl rfl hl.1 rfl (lv_room (Nat.le_of_ble_eq_true rfl)) dX8_takesSaying_105 ⟨Nat.le_of_ble_eq_true rfl, Nat.le_of_ble_eq_true rfl⟩) hP hD hS [0, 1, 2, 3, 4, 5, 6, 7, 8, 9, 10, 11, 12] [] rfl (fun _ => rfl) rfl (fun _ => rfl) (fun _ => rfl) (fun _ => rfl) (by decide +kernel) (by decide +kernel) (fun r10 zu H locs h hz_r10 hP hD hS => ?_)
            obtain ⟨read_11, at__12⟩ := zu
            have hP : va_P D vwCl (W_X8 ca a rowSizes rows textSizes texts now keeps kept asked upper lower finding findings read_11 at__12 costs ways reach) H := hP
            have hD : va_D _ (W_X8 ca a rowSizes rows textSizes texts now keeps kept asked upper lower finding findings read_11 at__12 costs ways reach) := hD
            try dsimp only at h
            refine lv_if_eq (tgt := 126) hx hb dX8_takesSaying_108 (by decide) (fun hc => ?_) (fun hc => ?_)
            · have h := h.1 hc
              refine lv_iconst (v := (0)) hx hb dX8_takesSaying_126 (by decide) ?_
              exact W.zret (v := (0 : Int32)) hx hb hr nar0 (fun zt ht hW => ⟨⟨(0 : Int32), (read_11, at__12), rfl, ⟨h, nar0⟩, by rw [ht]; exact hP⟩, hS.F ht⟩) hS.2.2 dX8_takesSaying_127
            · have h := h.2 hc
              refine lv_aload_n hx hb dX8_takesSaying_111 rfl (lv_at hl 2 rfl) ?_
              refine lv_iload_n hx hb dX8_takesSaying_112 rfl (lv_at hl 3 rfl) ?_
              refine lv_bipush (v := (51)) hx hb dX8_takesSaying_113 (by decide) ?_
              refine lv_iload_n hx hb dX8_takesSaying_115 rfl (lv_at hl 1 rfl) ?_
              refine lv_iadd hx hb dX8_takesSaying_116 ?_
              refine lv_iconst (v := (1)) hx hb dX8_takesSaying_117 (by decide) ?_
              refine lv_bipush (v := (9)) hx hb dX8_takesSaying_118 (by decide) ?_
              refine wr_callz (ws1 := fun zu => W_X8 ca a rowSizes rows textSizes texts now keeps kept asked upper lower finding findings zu.1 zu.2 costs ways reach) (wr := ([] : List Nat).filterMap (fun zi => (W_X8 ca a rowSizes rows textSizes texts now keeps kept asked upper lower finding findings read_11 at__12 costs ways reach : va_W)[zi]?)) (n := 13) (va_runV (As := [.int t, .int ((51 : Int32) + (read 0)), .int (1 : Int32), .int (9 : Int32)]) (rest := []) ⟨hx, hb, hml, hown, hts⟩ (c_X8_takes l D ca a rowSizes rows textSizes texts now keeps kept asked upper lower finding findings read_11 at__12 costs ways reach t ((51 : Int32) + (read 0)) (1 : Int32) (9 : Int32) _ (hD.subM [0, 1, 2, 3, 4, 5, 6, 7, 8, 9, 10, 11, 12] (by decide) rfl) h) (cwV 4 hts gX8_takesSaying_X8_takes rfl rfl rfl (by decide +kernel) ⟨Nat.le_of_ble_eq_true rfl, Nat.le_of_ble_eq_true rfl⟩) (PcX.preV (q := (RX8, TX8, 17)) (ci := 7) (q0 := 0) hK hP rfl rfl hP) rfl rfl hl.1 rfl (lv_room (Nat.le_of_ble_eq_true rfl)) dX8_takesSaying_120 ⟨Nat.le_of_ble_eq_true rfl, Nat.le_of_ble_eq_true rfl⟩) hP hD hS [0, 1, 2, 3, 4, 5, 6, 7, 8, 9, 10, 11, 12] [] rfl (fun _ => rfl) rfl (fun _ => rfl) (fun _ => rfl) (fun _ => rfl) (by decide +kernel) (by decide +kernel) (fun r13 zu H locs h hz_r13 hP hD hS => ?_)
              obtain ⟨read_14, at__15⟩ := zu
              have hP : va_P D vwCl (W_X8 ca a rowSizes rows textSizes texts now keeps kept asked upper lower finding findings read_14 at__15 costs ways reach) H := hP
              have hD : va_D _ (W_X8 ca a rowSizes rows textSizes texts now keeps kept asked upper lower finding findings read_14 at__15 costs ways reach) := hD
              try dsimp only at h
              refine lv_if_ne (tgt := 128) hx hb dX8_takesSaying_123 (by decide) (fun hc => ?_) (fun hc => ?_)
              · have h := h.1 hc
                refine lv_aload_n hx hb dX8_takesSaying_128 rfl (lv_at hl 2 rfl) ?_
                refine lv_iload_n hx hb dX8_takesSaying_129 rfl (lv_at hl 3 rfl) ?_
                refine rd_calli (va_runV (As := [.int t]) (rest := []) ⟨hx, hb, hml, hown, hts⟩ (c_X8_byteAt l D ca a rowSizes rows textSizes texts now keeps kept asked upper lower finding findings read_14 at__15 costs ways reach t _ h) (cwV 1 hts gX8_takesSaying_X8_byteAt rfl rfl rfl (by decide +kernel) ⟨Nat.le_of_ble_eq_true rfl, Nat.le_of_ble_eq_true rfl⟩) (PcX.preV (q := (RX8, TX8, 17)) (ci := 7) (q0 := 0) hK hP rfl rfl hP) rfl rfl hl.1 rfl (lv_room (Nat.le_of_ble_eq_true rfl)) dX8_takesSaying_130 ⟨Nat.le_of_ble_eq_true rfl, Nat.le_of_ble_eq_true rfl⟩) (fun r16 h => ?_)
                try dsimp only at h
                refine lv_bipush (v := (65)) hx hb dX8_takesSaying_133 (by decide) ?_
                refine lv_isub hx hb dX8_takesSaying_135 ?_
                refine lv_istore (lv' := [(4, .int (r16 - (65 : Int32))), (3, .int r2), (2, .int (read 0)), (0, .ref (a 0)), (1, .int t)]) hx hb dX8_takesSaying_136 hl (by decide) rfl (fun ls hl => ?_)
                refine lv_aload_n hx hb dX8_takesSaying_138 rfl (lv_at hl 3 rfl) ?_
                refine lv_iload_n hx hb dX8_takesSaying_139 rfl (lv_at hl 4 rfl) ?_
                refine rd_calli (va_runV (As := [.int t]) (rest := []) ⟨hx, hb, hml, hown, hts⟩ (c_X8_byteAt l D ca a rowSizes rows textSizes texts now keeps kept asked upper lower finding findings read_14 at__15 costs ways reach t _ h) (cwV 1 hts gX8_takesSaying_X8_byteAt rfl rfl rfl (by decide +kernel) ⟨Nat.le_of_ble_eq_true rfl, Nat.le_of_ble_eq_true rfl⟩) (PcX.preV (q := (RX8, TX8, 17)) (ci := 7) (q0 := 0) hK hP rfl rfl hP) rfl rfl hl.1 rfl (lv_room (Nat.le_of_ble_eq_true rfl)) dX8_takesSaying_140 ⟨Nat.le_of_ble_eq_true rfl, Nat.le_of_ble_eq_true rfl⟩) (fun r17 h => ?_)
                try dsimp only at h
                refine lv_bipush (v := (45)) hx hb dX8_takesSaying_143 (by decide) ?_
                refine lv_icmp_eq (tgt := 164) hx hb dX8_takesSaying_145 (by decide) (fun hc => ?_) (fun hc => ?_)
                · have h := h.1 hc
                  exact w_164  read_14 at__15 (read 0) (r16 - (65 : Int32)) h _ _ hP hD hS ls (lv_sub hl [3, 2, 0] rfl)
                · have h := h.2 hc
                  refine lv_iload hx hb dX8_takesSaying_148 (lv_at hl 0 rfl) ?_
                  refine lv_i2l hx hb dX8_takesSaying_150 rfl ?_
                  refine lv_lconst (v := (0)) hx hb dX8_takesSaying_151 (by decide) ?_
                  refine lv_iload_n hx hb dX8_takesSaying_152 rfl (lv_at hl 2 rfl) ?_
                  refine lv_iconst (v := (1)) hx hb dX8_takesSaying_153 (by decide) ?_
                  refine lv_isub hx hb dX8_takesSaying_154 ?_
                  refine lv_i2l hx hb dX8_takesSaying_155 rfl ?_
                  refine rd_callz (va_runS (As := [.long ((r16 - (65 : Int32)).toInt64), .long (0 : Int64), .long (((read 0) - (1 : Int32)).toInt64)]) (rest := []) ⟨hx, hb, hml, hown, hts⟩ (c_X8_in l D ca   ((r16 - (65 : Int32)).toInt64) (0 : Int64) (((read 0) - (1 : Int32)).toInt64) _ h) (va_cwS 3 hts gX8_takesSaying_X8_in rfl rfl rfl (by decide +kernel) ⟨Nat.le_of_ble_eq_true rfl, Nat.le_of_ble_eq_true rfl⟩) (PcX.preS hK (fun zk zq zh => by simp at zh)) rfl rfl hl.1 rfl (lv_room (Nat.le_of_ble_eq_true rfl)) dX8_takesSaying_156 ⟨Nat.le_of_ble_eq_true rfl, Nat.le_of_ble_eq_true rfl⟩) (fun r18 h hz_r18 => ?_)
                  try dsimp only at h
                  refine lv_if_ne (tgt := 164) hx hb dX8_takesSaying_159 (by decide) (fun hc => ?_) (fun hc => ?_)
                  · have h := h.1 hc
                    exact w_164  read_14 at__15 (read 0) (r16 - (65 : Int32)) h _ _ hP hD hS ls (lv_sub hl [3, 2, 0] rfl)
                  · have h := h.2 hc
                    refine lv_iconst (v := (0)) hx hb dX8_takesSaying_162 (by decide) ?_
                    exact W.zret (v := (0 : Int32)) hx hb hr nar0 (fun zt ht hW => ⟨⟨(0 : Int32), (read_14, at__15), rfl, ⟨h, nar0⟩, by rw [ht]; exact hP⟩, hS.F ht⟩) hS.2.2 dX8_takesSaying_163
              · have h := h.2 hc
                refine lv_iconst (v := (0)) hx hb dX8_takesSaying_126 (by decide) ?_
                exact W.zret (v := (0 : Int32)) hx hb hr nar0 (fun zt ht hW => ⟨⟨(0 : Int32), (read_14, at__15), rfl, ⟨h, nar0⟩, by rw [ht]; exact hP⟩, hS.F ht⟩) hS.2.2 dX8_takesSaying_127
      · have h := h.2 hc
        refine lv_iconst (v := (0)) hx hb dX8_takesSaying_61 (by decide) ?_
        exact W.zret (v := (0 : Int32)) hx hb hr nar0 (fun zt ht hW => ⟨⟨(0 : Int32), (read_4, at__5), rfl, ⟨h, nar0⟩, by rw [ht]; exact hP⟩, hS.F ht⟩) hS.2.2 dX8_takesSaying_62
    · have h := h.2 hc
      refine lv_iconst (v := (0)) hx hb dX8_takesSaying_26 (by decide) ?_
      exact W.zret (v := (0 : Int32)) hx hb hr nar0 (fun zt ht hW => ⟨⟨(0 : Int32), (read, at_), rfl, ⟨h, nar0⟩, by rw [ht]; exact hP⟩, hS.F ht⟩) hS.2.2 dX8_takesSaying_27

-- IronedQuarrelsModel.reads(I)I
def wb_X8_reads_26 (textSizes : Nat → Int32) (texts : Nat → Int32) (t : Int32) (post : Int32 → (Nat → Int32) → (Int32) → Prop) (K26 : (Nat → Int32) → (Int32) → Prop) (read : Nat → Int32) (at_ : Int32) : Prop :=
  vp_in t 4 ∧ ((textSizes t.toNatClampNeg) ≤ at_ → (post (-9 : Int32) (upd read 2 (((1 : Int32) <<< ((read 0) &&& 31)) - (1 : Int32))) at_)) ∧ (¬ (textSizes t.toNatClampNeg) ≤ at_ → (wp_X8_byteAt textSizes texts at_ t (fun r1 => (¬ r1 = (32 : Int32) → (wp_X8_takesSaying textSizes texts read at_ t (fun r2 read_3 at__4 => (¬ r2 = 0 → (K26 read_3 at__4)) ∧ (r2 = 0 → (post at__4 read_3 at__4))))) ∧ (r1 = (32 : Int32) → (K26 read (at_ + (1 : Int32)))))))
def wl_X8_reads_26 (textSizes : Nat → Int32) (texts : Nat → Int32) (t : Int32) (post : Int32 → (Nat → Int32) → (Int32) → Prop) : Nat → (Nat → Int32) → (Int32) → Prop
  | 0 => fun _ _ => False
  | zn + 1 => wb_X8_reads_26 textSizes texts t post (wl_X8_reads_26 textSizes texts t post zn)
def wb_X8_reads_2 (textSizes : Nat → Int32) (texts : Nat → Int32) (t : Int32) (post : Int32 → (Nat → Int32) → (Int32) → Prop) (K2 : (Nat → Int32) → (Int32) → (Int32) → Prop) (read : Nat → Int32) (at_ : Int32) (x2 : Int32) : Prop :=
  ((115 : Int32) ≤ x2 → (∃ zn, wl_X8_reads_26 textSizes texts t post zn read (0 : Int32))) ∧ (¬ (115 : Int32) ≤ x2 → (vp_in x2 115 ∧ K2 (upd read (x2.toNatClampNeg) (0 : Int32)) at_ (x2 + 1)))
def wl_X8_reads_2 (textSizes : Nat → Int32) (texts : Nat → Int32) (t : Int32) (post : Int32 → (Nat → Int32) → (Int32) → Prop) : Nat → (Nat → Int32) → (Int32) → (Int32) → Prop
  | 0 => fun _ _ _ => False
  | zn + 1 => wb_X8_reads_2 textSizes texts t post (wl_X8_reads_2 textSizes texts t post zn)
def wp_X8_reads (textSizes : Nat → Int32) (texts : Nat → Int32) (read : Nat → Int32) (at_ : Int32) (t : Int32) (post : Int32 → (Nat → Int32) → (Int32) → Prop) : Prop :=
  ∃ zn, wl_X8_reads_2 textSizes texts t post zn read at_ (0 : Int32)
def rm_X8_reads : Room := { frames := 3, cells := 0, slots := 0, locals := 74 }
theorem k_X8_reads_1 : Cond.fieldLink RX8 39 "IronedQuarrelsModel" "read" "[I" ∈ wsX8_reads := List.mem_of_getElem? (i := 1) (by decide +kernel)
theorem k_X8_reads_2 : Cond.fieldLink RX8 81 "IronedQuarrelsModel" "at" "I" ∈ wsX8_reads := List.mem_of_getElem? (i := 2) (by decide +kernel)
theorem k_X8_reads_3 : Cond.fieldLink RX8 16 "IronedQuarrelsModel" "textSizes" "[I" ∈ wsX8_reads := List.mem_of_getElem? (i := 3) (by decide +kernel)
theorem hi_X8_reads_X8 : ∀ w ∈ wsX80, w ∈ wsX8_reads := fun w h => List.mem_cons_of_mem _ (List.mem_append_right _ h)
set_option maxHeartbeats 4000000 in
set_option maxRecDepth 100000 in
theorem c_X8_reads (l : Launch) (D : va_G) (ca : Nat → ClassId) (a : Nat → Nat) (rowSizes : Nat → Int32) (rows : Nat → Int32) (textSizes : Nat → Int32) (texts : Nat → Int32) (now : Nat → Int32) (keeps : Nat → Int32) (kept : Nat → Int32) (asked : Int32) (upper : Int64) (lower : Int64) (finding : Int32) (findings : Nat → Int32) (read : Nat → Int32) (at_ : Int32) (costs : Nat → Int32) (ways : Nat → Int64) (reach : Nat → Int32) (t : Int32) (post : Int32 → (Nat → Int32) → (Int32) → Prop) (hd : va_D (fun _ => True) (W_X8 ca a rowSizes rows textSizes texts now keeps kept asked upper lower finding findings read at_ costs ways reach)) (h : wp_X8_reads textSizes texts read at_ t post) : Met l yX8_reads wsX8_reads rm_X8_reads (PcX D ca [.ref (a 0), .int t] (W_X8 ca a rowSizes rows textSizes texts now keeps kept asked upper lower finding findings read at_ costs ways reach)) (wrI (S := (Nat → Int32) × (Int32)) D (W_X8 ca a rowSizes rows textSizes texts now keeps kept asked upper lower finding findings read at_ costs ways reach) (fun zu => W_X8 ca a rowSizes rows textSizes texts now keeps kept asked upper lower finding findings zu.1 zu.2 costs ways reach) (fun zr zu => post zr zu.1 zu.2)) 0 0 (adr (W_X8 ca a rowSizes rows textSizes texts now keeps kept asked upper lower finding findings read at_ costs ways reach)) := by
  refine Met.ofW (cc := cX8_reads) (maxL := 3) (ret := (some .int)) (by decide) rfl ?_
  intro zp ze zs zm za zb zt zc z1 B hml hv
  obtain ⟨rfl, hP, hK⟩ := hv
  have hx := B.exec
  have hb := B.bytes
  have hr := B.returns
  have hts := atoms_spec (ws := wsX8_reads) B.pre
  have hown : zs.vm.findClass RX8 = some zm.cls := findClass_of_methodNamed B.named
  have hlocks := B.notSynchronized
  have hD : va_D (adr (W_X8 ca a rowSizes rows textSizes texts now keeps kept asked upper lower finding findings read at_ costs ways reach)) (W_X8 ca a rowSizes rows textSizes texts now keeps kept asked upper lower finding findings read at_ costs ways reach) := hd.adr
  have hS : va_S (adr (W_X8 ca a rowSizes rows textSizes texts now keeps kept asked upper lower finding findings read at_ costs ways reach)) zs.heap zs.heap [] := va_S.rf
  have hl := lv_entry ([.ref (a 0), .int t]) (n := 3) (Nat.le_of_ble_eq_true rfl)
  rw [lg_entry_eq]
  generalize (lg_sl ([.ref (a 0), .int t]) ++ List.replicate (3 - (lg_sl ([.ref (a 0), .int t])).length) Slot.unset).toArray = ls at hl ⊢
  replace hl : lv_has ls 3 [(0, .ref (a 0)), (1, .int t)] := hl
  show W zp l ze rm_X8_reads zs zm ([.ref (a 0), .int t] : List Value).toArray zb zt zc zs.heap [] 0 0 (MQ zb (wrI (S := (Nat → Int32) × (Int32)) D (W_X8 ca a rowSizes rows textSizes texts now keeps kept asked upper lower finding findings read at_ costs ways reach) (fun zu => W_X8 ca a rowSizes rows textSizes texts now keeps kept asked upper lower finding findings zu.1 zu.2 costs ways reach) (fun zr zu => post zr zu.1 zu.2)) ([.ref (a 0), .int t] : List Value).toArray zs 0 0 (adr (W_X8 ca a rowSizes rows textSizes texts now keeps kept asked upper lower finding findings read at_ costs ways reach))) (F0 zm 0 ls [])
  have w_26 : ∀ (zn : Nat) (read : Nat → Int32) (at_ : Int32), wl_X8_reads_26 textSizes texts t post zn read at_ → ∀ (H : Heap) (locs : List Loc), va_P D vwCl (W_X8 ca a rowSizes rows textSizes texts now keeps kept asked upper lower finding findings read at_ costs ways reach) H → va_D (adr (W_X8 ca a rowSizes rows textSizes texts now keeps kept asked upper lower finding findings read at_ costs ways reach)) (W_X8 ca a rowSizes rows textSizes texts now keeps kept asked upper lower finding findings read at_ costs ways reach) → va_S (adr (W_X8 ca a rowSizes rows textSizes texts now keeps kept asked upper lower finding findings read at_ costs ways reach)) zs.heap H locs → ∀ ls : Array Slot, lv_has ls 3 [(0, .ref (a 0)), (1, .int t)] → W zp l ze rm_X8_reads zs zm ([.ref (a 0), .int t] : List Value).toArray zb zt zc H locs 0 0 (MQ zb (wrI (S := (Nat → Int32) × (Int32)) D (W_X8 ca a rowSizes rows textSizes texts now keeps kept asked upper lower finding findings read at_ costs ways reach) (fun zu => W_X8 ca a rowSizes rows textSizes texts now keeps kept asked upper lower finding findings zu.1 zu.2 costs ways reach) (fun zr zu => post zr zu.1 zu.2)) ([.ref (a 0), .int t] : List Value).toArray zs 0 0 (adr (W_X8 ca a rowSizes rows textSizes texts now keeps kept asked upper lower finding findings read at_ costs ways reach))) (F0 zm 26 ls []) := by
    intro zn
    induction zn with
    | zero => intro read at_ h; exact h.elim
    | succ zn ih26 =>
      intro read at_ h H locs hP hD hS ls hl
      replace h : wb_X8_reads_26 textSizes texts t post (wl_X8_reads_26 textSizes texts t post zn) read at_ := h
      unfold wb_X8_reads_26 at h
      refine lv_aload_n hx hb dX8_reads_26 rfl (lv_at hl 0 rfl) ?_
      refine va_get (D := D) (ci := 7) (v := .int at_) (C := RX8) (T := TX8) (N := 17) hx hb hts hi_X8_reads_X8 hown hK.1 hP 0 rfl rfl 13 (by decide) (hts _ k_X8_reads_2) (fun _ h9 => h9) rfl dX8_reads_27 ?_
      refine lv_aload_n hx hb dX8_reads_30 rfl (lv_at hl 0 rfl) ?_
      refine va_get (D := D) (ci := 7) (v := .ref (a 3)) (C := RX8) (T := TX8) (N := 17) hx hb hts hi_X8_reads_X8 hown hK.1 hP 0 rfl rfl 2 (by decide) (hts _ k_X8_reads_3) (fun _ h9 => h9) rfl dX8_reads_31 ?_
      refine lv_iload_n hx hb dX8_reads_34 rfl (lv_at hl 1 rfl) ?_
      obtain ⟨hi, h⟩ := h
      refine x_iald (v := textSizes t.toNatClampNeg) hx hb hK hP 3 rfl hi rfl dX8_reads_35 ?_
      refine lv_icmp_ge (tgt := 75) hx hb dX8_reads_36 (by decide) (fun hc => ?_) (fun hc => ?_)
      · have h := h.1 hc
        refine lv_aload_n hx hb dX8_reads_75 rfl (lv_at hl 0 rfl) ?_
        refine va_get (D := D) (ci := 7) (v := .ref (a 9)) (C := RX8) (T := TX8) (N := 17) hx hb hts hi_X8_reads_X8 hown hK.1 hP 0 rfl rfl 12 (by decide) (hts _ k_X8_reads_1) (fun _ h9 => h9) rfl dX8_reads_76 ?_
        refine lv_iconst (v := (2)) hx hb dX8_reads_79 (by decide) ?_
        refine lv_iconst (v := (1)) hx hb dX8_reads_80 (by decide) ?_
        refine lv_aload_n hx hb dX8_reads_81 rfl (lv_at hl 0 rfl) ?_
        refine va_get (D := D) (ci := 7) (v := .ref (a 9)) (C := RX8) (T := TX8) (N := 17) hx hb hts hi_X8_reads_X8 hown hK.1 hP 0 rfl rfl 12 (by decide) (hts _ k_X8_reads_1) (fun _ h9 => h9) rfl dX8_reads_82 ?_
        refine lv_iconst (v := (0)) hx hb dX8_reads_85 (by decide) ?_
        refine x_iald (v := read 0) hx hb hK hP 9 rfl (vin_lit (by decide)) rfl dX8_reads_86 ?_
        refine lv_ishl hx hb dX8_reads_87 ?_
        refine lv_iconst (v := (1)) hx hb dX8_reads_88 (by decide) ?_
        refine lv_isub hx hb dX8_reads_89 ?_
        refine x_iast (ws' := W_X8 ca a rowSizes rows textSizes texts now keeps kept asked upper lower finding findings (upd read 2 (((1 : Int32) <<< ((read 0) &&& 31)) - (1 : Int32))) at_ costs ways reach) hx hb hK hP hD hS 9 rfl (vin_lit (by decide)) (k := 2) rfl rfl dX8_reads_90 (fun H locs hP hD hS => ?_)
        refine lv_bipush (v := (-9)) hx hb dX8_reads_91 (by decide) ?_
        exact W.iret (v := (-9 : Int32)) hx hb hr (fun zt ht hW => ⟨⟨(-9 : Int32), (upd read 2 (((1 : Int32) <<< ((read 0) &&& 31)) - (1 : Int32)), at_), rfl, h, by rw [ht]; exact hP⟩, hS.F ht⟩) hS.2.2 dX8_reads_93
      · have h := h.2 hc
        refine lv_aload_n hx hb dX8_reads_39 rfl (lv_at hl 0 rfl) ?_
        refine lv_iload_n hx hb dX8_reads_40 rfl (lv_at hl 1 rfl) ?_
        refine rd_calli (va_runV (As := [.int t]) (rest := []) ⟨hx, hb, hml, hown, hts⟩ (c_X8_byteAt l D ca a rowSizes rows textSizes texts now keeps kept asked upper lower finding findings read at_ costs ways reach t _ h) (cwV 1 hts gX8_reads_X8_byteAt rfl rfl rfl (by decide +kernel) ⟨Nat.le_of_ble_eq_true rfl, Nat.le_of_ble_eq_true rfl⟩) (PcX.preV (q := (RX8, TX8, 17)) (ci := 7) (q0 := 0) hK hP rfl rfl hP) rfl rfl hl.1 rfl (lv_room (Nat.le_of_ble_eq_true rfl)) dX8_reads_41 ⟨Nat.le_of_ble_eq_true rfl, Nat.le_of_ble_eq_true rfl⟩) (fun r1 h => ?_)
        try dsimp only at h
        refine lv_bipush (v := (32)) hx hb dX8_reads_44 (by decide) ?_
        refine lv_icmp_ne (tgt := 62) hx hb dX8_reads_46 (by decide) (fun hc => ?_) (fun hc => ?_)
        · have h := h.1 hc
          refine lv_aload_n hx hb dX8_reads_62 rfl (lv_at hl 0 rfl) ?_
          refine lv_iload_n hx hb dX8_reads_63 rfl (lv_at hl 1 rfl) ?_
          refine wr_callz (ws1 := fun zu => W_X8 ca a rowSizes rows textSizes texts now keeps kept asked upper lower finding findings zu.1 zu.2 costs ways reach) (wr := ([] : List Nat).filterMap (fun zi => (W_X8 ca a rowSizes rows textSizes texts now keeps kept asked upper lower finding findings read at_ costs ways reach : va_W)[zi]?)) (n := 13) (va_runV (As := [.int t]) (rest := []) ⟨hx, hb, hml, hown, hts⟩ (c_X8_takesSaying l D ca a rowSizes rows textSizes texts now keeps kept asked upper lower finding findings read at_ costs ways reach t _ (hD.subM [0, 1, 2, 3, 4, 5, 6, 7, 8, 9, 10, 11, 12] (by decide) rfl) h) (cwV 1 hts gX8_reads_X8_takesSaying rfl rfl rfl (by decide +kernel) ⟨Nat.le_of_ble_eq_true rfl, Nat.le_of_ble_eq_true rfl⟩) (PcX.preV (q := (RX8, TX8, 17)) (ci := 7) (q0 := 0) hK hP rfl rfl hP) rfl rfl hl.1 rfl (lv_room (Nat.le_of_ble_eq_true rfl)) dX8_reads_64 ⟨Nat.le_of_ble_eq_true rfl, Nat.le_of_ble_eq_true rfl⟩) hP hD hS [0, 1, 2, 3, 4, 5, 6, 7, 8, 9, 10, 11, 12] [] rfl (fun _ => rfl) rfl (fun _ => rfl) (fun _ => rfl) (fun _ => rfl) (by decide +kernel) (by decide +kernel) (fun r2 zu H locs h hz_r2 hP hD hS => ?_)
          obtain ⟨read_3, at__4⟩ := zu
          have hP : va_P D vwCl (W_X8 ca a rowSizes rows textSizes texts now keeps kept asked upper lower finding findings read_3 at__4 costs ways reach) H := hP
          have hD : va_D _ (W_X8 ca a rowSizes rows textSizes texts now keeps kept asked upper lower finding findings read_3 at__4 costs ways reach) := hD
          try dsimp only at h
          refine lv_if_ne (tgt := 26) hx hb dX8_reads_67 (by decide) (fun hc => ?_) (fun hc => ?_)
          · have h := h.1 hc
            exact ih26 read_3 at__4 h _ _ hP hD hS ls (lv_sub hl [0, 1] rfl)
          · have h := h.2 hc
            refine lv_aload_n hx hb dX8_reads_70 rfl (lv_at hl 0 rfl) ?_
            refine va_get (D := D) (ci := 7) (v := .int at__4) (C := RX8) (T := TX8) (N := 17) hx hb hts hi_X8_reads_X8 hown hK.1 hP 0 rfl rfl 13 (by decide) (hts _ k_X8_reads_2) (fun _ h9 => h9) rfl dX8_reads_71 ?_
            exact W.iret (v := at__4) hx hb hr (fun zt ht hW => ⟨⟨at__4, (read_3, at__4), rfl, h, by rw [ht]; exact hP⟩, hS.F ht⟩) hS.2.2 dX8_reads_74
        · have h := h.2 hc
          refine lv_aload_n hx hb dX8_reads_49 rfl (lv_at hl 0 rfl) ?_
          refine lv_dup hx hb dX8_reads_50 rfl ?_
          refine va_get (D := D) (ci := 7) (v := .int at_) (C := RX8) (T := TX8) (N := 17) hx hb hts hi_X8_reads_X8 hown hK.1 hP 0 rfl rfl 13 (by decide) (hts _ k_X8_reads_2) (fun _ h9 => h9) rfl dX8_reads_51 ?_
          refine lv_iconst (v := (1)) hx hb dX8_reads_54 (by decide) ?_
          refine lv_iadd hx hb dX8_reads_55 ?_
          refine va_put (D := D) (ci := 7) (v := .int (at_ + (1 : Int32))) (ty := .int) (C := RX8) (T := TX8) (N := 17) hx hb hts hi_X8_reads_X8 tyX8 tyX8_ok nmX8 hown hK.1 hP hD hS 0 rfl rfl 13 (by decide) (hts _ k_X8_reads_2) (fun _ h9 => h9) rfl (by decide +kernel) rfl rfl (Nat.le_of_ble_eq_true rfl) dX8_reads_56 (fun H locs hP hD hS => ?_)
          have hP : va_P D vwCl (W_X8 ca a rowSizes rows textSizes texts now keeps kept asked upper lower finding findings read (at_ + (1 : Int32)) costs ways reach) H := hP
          have hD : va_D _ (W_X8 ca a rowSizes rows textSizes texts now keeps kept asked upper lower finding findings read (at_ + (1 : Int32)) costs ways reach) := hD
          refine lv_goto (tgt := 26) hx hb dX8_reads_59 (by decide) ?_
          exact ih26 read (at_ + (1 : Int32)) h _ _ hP hD hS ls (lv_sub hl [0, 1] rfl)
  have w_2 : ∀ (zn : Nat) (read : Nat → Int32) (at_ : Int32) (x2 : Int32), wl_X8_reads_2 textSizes texts t post zn read at_ x2 → ∀ (H : Heap) (locs : List Loc), va_P D vwCl (W_X8 ca a rowSizes rows textSizes texts now keeps kept asked upper lower finding findings read at_ costs ways reach) H → va_D (adr (W_X8 ca a rowSizes rows textSizes texts now keeps kept asked upper lower finding findings read at_ costs ways reach)) (W_X8 ca a rowSizes rows textSizes texts now keeps kept asked upper lower finding findings read at_ costs ways reach) → va_S (adr (W_X8 ca a rowSizes rows textSizes texts now keeps kept asked upper lower finding findings read at_ costs ways reach)) zs.heap H locs → ∀ ls : Array Slot, lv_has ls 3 [(0, .ref (a 0)), (1, .int t), (2, .int x2)] → W zp l ze rm_X8_reads zs zm ([.ref (a 0), .int t] : List Value).toArray zb zt zc H locs 0 0 (MQ zb (wrI (S := (Nat → Int32) × (Int32)) D (W_X8 ca a rowSizes rows textSizes texts now keeps kept asked upper lower finding findings read at_ costs ways reach) (fun zu => W_X8 ca a rowSizes rows textSizes texts now keeps kept asked upper lower finding findings zu.1 zu.2 costs ways reach) (fun zr zu => post zr zu.1 zu.2)) ([.ref (a 0), .int t] : List Value).toArray zs 0 0 (adr (W_X8 ca a rowSizes rows textSizes texts now keeps kept asked upper lower finding findings read at_ costs ways reach))) (F0 zm 2 ls []) := by
    intro zn
    induction zn with
    | zero => intro read at_ x2 h; exact h.elim
    | succ zn ih2 =>
      intro read at_ x2 h H locs hP hD hS ls hl
      replace h : wb_X8_reads_2 textSizes texts t post (wl_X8_reads_2 textSizes texts t post zn) read at_ x2 := h
      unfold wb_X8_reads_2 at h
      refine lv_iload_n hx hb dX8_reads_2 rfl (lv_at hl 2 rfl) ?_
      refine lv_bipush (v := (115)) hx hb dX8_reads_3 (by decide) ?_
      refine lv_icmp_ge (tgt := 21) hx hb dX8_reads_5 (by decide) (fun hc => ?_) (fun hc => ?_)
      · have h := h.1 hc
        refine lv_aload_n hx hb dX8_reads_21 rfl (lv_at hl 0 rfl) ?_
        refine lv_iconst (v := (0)) hx hb dX8_reads_22 (by decide) ?_
        refine va_put (D := D) (ci := 7) (v := .int (0 : Int32)) (ty := .int) (C := RX8) (T := TX8) (N := 17) hx hb hts hi_X8_reads_X8 tyX8 tyX8_ok nmX8 hown hK.1 hP hD hS 0 rfl rfl 13 (by decide) (hts _ k_X8_reads_2) (fun _ h9 => h9) rfl (by decide +kernel) rfl rfl (Nat.le_of_ble_eq_true rfl) dX8_reads_23 (fun H locs hP hD hS => ?_)
        have hP : va_P D vwCl (W_X8 ca a rowSizes rows textSizes texts now keeps kept asked upper lower finding findings read (0 : Int32) costs ways reach) H := hP
        have hD : va_D _ (W_X8 ca a rowSizes rows textSizes texts now keeps kept asked upper lower finding findings read (0 : Int32) costs ways reach) := hD
        obtain ⟨zn, h⟩ := h
        exact w_26  zn read (0 : Int32) h _ _ hP hD hS ls (lv_sub hl [0, 1] rfl)
      · have h := h.2 hc
        refine lv_aload_n hx hb dX8_reads_8 rfl (lv_at hl 0 rfl) ?_
        refine va_get (D := D) (ci := 7) (v := .ref (a 9)) (C := RX8) (T := TX8) (N := 17) hx hb hts hi_X8_reads_X8 hown hK.1 hP 0 rfl rfl 12 (by decide) (hts _ k_X8_reads_1) (fun _ h9 => h9) rfl dX8_reads_9 ?_
        refine lv_iload_n hx hb dX8_reads_12 rfl (lv_at hl 2 rfl) ?_
        refine lv_iconst (v := (0)) hx hb dX8_reads_13 (by decide) ?_
        obtain ⟨hi, h⟩ := h
        refine x_iast (ws' := W_X8 ca a rowSizes rows textSizes texts now keeps kept asked upper lower finding findings (upd read (x2.toNatClampNeg) (0 : Int32)) at_ costs ways reach) hx hb hK hP hD hS 9 rfl hi (k := (x2.toNatClampNeg)) rfl rfl dX8_reads_14 (fun H locs hP hD hS => ?_)
        refine lv_iinc (v := x2 + 1) (lv' := [(2, .int (x2 + 1)), (0, .ref (a 0)), (1, .int t)]) hx hb dX8_reads_15 hl (k := 2) rfl rfl (by decide) rfl (fun ls hl => ?_)
        refine lv_goto (tgt := 2) hx hb dX8_reads_18 (by decide) ?_
        exact ih2 (upd read (x2.toNatClampNeg) (0 : Int32)) at_ (x2 + 1) h _ _ hP hD hS ls (lv_sub hl [1, 2, 0] rfl)
  unfold wp_X8_reads at h
  refine lv_iconst (v := (0)) hx hb dX8_reads_0 (by decide) ?_
  refine lv_istore_n (lv' := [(2, .int (0 : Int32)), (0, .ref (a 0)), (1, .int t)]) hx hb dX8_reads_1 rfl hl (by decide) rfl (fun ls hl => ?_)
  obtain ⟨zn, h⟩ := h
  exact w_2  zn read at_ (0 : Int32) h _ _ hP hD hS ls (lv_sub hl [1, 2, 0] rfl)

-- IronedQuarrelsModel.fault(I)I
def wp_X8_fault (textSizes : Nat → Int32) (texts : Nat → Int32) (finding : Int32) (findings : Nat → Int32) (read : Nat → Int32) (at_ : Int32) (t : Int32) (post : Int32 → (Int32) → (Nat → Int32) → (Nat → Int32) → (Int32) → Prop) : Prop :=
  wp_X8_isText t (fun r1 => (¬ r1 = 0 → (vp_in t 4 ∧ (0 ≤ (textSizes t.toNatClampNeg) → (wp_X8_reads textSizes texts read at_ t (fun r2 read_3 at__4 => post r2 finding findings read_3 at__4))) ∧ (¬ 0 ≤ (textSizes t.toNatClampNeg) → (wp_X8_found findings (1 : Int32) (fun r5 finding_6 findings_7 => post r5 finding_6 findings_7 read at_))))) ∧ (r1 = 0 → (post (-1 : Int32) finding findings read at_)))
def rm_X8_fault : Room := { frames := 4, cells := 0, slots := 0, locals := 96 }
theorem k_X8_fault_1 : Cond.fieldLink RX8 16 "IronedQuarrelsModel" "textSizes" "[I" ∈ wsX8_fault := List.mem_of_getElem? (i := 1) (by decide +kernel)
theorem hi_X8_fault_X8 : ∀ w ∈ wsX80, w ∈ wsX8_fault := fun w h => List.mem_cons_of_mem _ (List.mem_append_right _ h)
set_option maxHeartbeats 4000000 in
set_option maxRecDepth 100000 in
theorem c_X8_fault (l : Launch) (D : va_G) (ca : Nat → ClassId) (a : Nat → Nat) (rowSizes : Nat → Int32) (rows : Nat → Int32) (textSizes : Nat → Int32) (texts : Nat → Int32) (now : Nat → Int32) (keeps : Nat → Int32) (kept : Nat → Int32) (asked : Int32) (upper : Int64) (lower : Int64) (finding : Int32) (findings : Nat → Int32) (read : Nat → Int32) (at_ : Int32) (costs : Nat → Int32) (ways : Nat → Int64) (reach : Nat → Int32) (t : Int32) (post : Int32 → (Int32) → (Nat → Int32) → (Nat → Int32) → (Int32) → Prop) (hd : va_D (fun _ => True) (W_X8 ca a rowSizes rows textSizes texts now keeps kept asked upper lower finding findings read at_ costs ways reach)) (h : wp_X8_fault textSizes texts finding findings read at_ t post) : Met l yX8_fault wsX8_fault rm_X8_fault (PcX D ca [.ref (a 0), .int t] (W_X8 ca a rowSizes rows textSizes texts now keeps kept asked upper lower finding findings read at_ costs ways reach)) (wrI (S := (Int32) × (Nat → Int32) × (Nat → Int32) × (Int32)) D (W_X8 ca a rowSizes rows textSizes texts now keeps kept asked upper lower finding findings read at_ costs ways reach) (fun zu => W_X8 ca a rowSizes rows textSizes texts now keeps kept asked upper lower zu.1 zu.2.1 zu.2.2.1 zu.2.2.2 costs ways reach) (fun zr zu => post zr zu.1 zu.2.1 zu.2.2.1 zu.2.2.2)) 0 0 (adr (W_X8 ca a rowSizes rows textSizes texts now keeps kept asked upper lower finding findings read at_ costs ways reach)) := by
  refine Met.ofW (cc := cX8_fault) (maxL := 2) (ret := (some .int)) (by decide) rfl ?_
  intro zp ze zs zm za zb zt zc z1 B hml hv
  obtain ⟨rfl, hP, hK⟩ := hv
  have hx := B.exec
  have hb := B.bytes
  have hr := B.returns
  have hts := atoms_spec (ws := wsX8_fault) B.pre
  have hown : zs.vm.findClass RX8 = some zm.cls := findClass_of_methodNamed B.named
  have hlocks := B.notSynchronized
  have hD : va_D (adr (W_X8 ca a rowSizes rows textSizes texts now keeps kept asked upper lower finding findings read at_ costs ways reach)) (W_X8 ca a rowSizes rows textSizes texts now keeps kept asked upper lower finding findings read at_ costs ways reach) := hd.adr
  have hS : va_S (adr (W_X8 ca a rowSizes rows textSizes texts now keeps kept asked upper lower finding findings read at_ costs ways reach)) zs.heap zs.heap [] := va_S.rf
  have hl := lv_entry ([.ref (a 0), .int t]) (n := 2) (Nat.le_of_ble_eq_true rfl)
  rw [lg_entry_eq]
  generalize (lg_sl ([.ref (a 0), .int t]) ++ List.replicate (2 - (lg_sl ([.ref (a 0), .int t])).length) Slot.unset).toArray = ls at hl ⊢
  replace hl : lv_has ls 2 [(0, .ref (a 0)), (1, .int t)] := hl
  show W zp l ze rm_X8_fault zs zm ([.ref (a 0), .int t] : List Value).toArray zb zt zc zs.heap [] 0 0 (MQ zb (wrI (S := (Int32) × (Nat → Int32) × (Nat → Int32) × (Int32)) D (W_X8 ca a rowSizes rows textSizes texts now keeps kept asked upper lower finding findings read at_ costs ways reach) (fun zu => W_X8 ca a rowSizes rows textSizes texts now keeps kept asked upper lower zu.1 zu.2.1 zu.2.2.1 zu.2.2.2 costs ways reach) (fun zr zu => post zr zu.1 zu.2.1 zu.2.2.1 zu.2.2.2)) ([.ref (a 0), .int t] : List Value).toArray zs 0 0 (adr (W_X8 ca a rowSizes rows textSizes texts now keeps kept asked upper lower finding findings read at_ costs ways reach))) (F0 zm 0 ls [])
  unfold wp_X8_fault at h
  refine lv_iload_n hx hb dX8_fault_0 rfl (lv_at hl 1 rfl) ?_
  refine rd_callz (va_runS (As := [.int t]) (rest := []) ⟨hx, hb, hml, hown, hts⟩ (c_X8_isText l D ca   t _ h) (va_cwS 1 hts gX8_fault_X8_isText rfl rfl rfl (by decide +kernel) ⟨Nat.le_of_ble_eq_true rfl, Nat.le_of_ble_eq_true rfl⟩) (PcX.preS hK (fun zk zq zh => by simp at zh)) rfl rfl hl.1 rfl (lv_room (Nat.le_of_ble_eq_true rfl)) dX8_fault_1 ⟨Nat.le_of_ble_eq_true rfl, Nat.le_of_ble_eq_true rfl⟩) (fun r1 h hz_r1 => ?_)
  try dsimp only at h
  refine lv_if_ne (tgt := 9) hx hb dX8_fault_4 (by decide) (fun hc => ?_) (fun hc => ?_)
  · have h := h.1 hc
    refine lv_aload_n hx hb dX8_fault_9 rfl (lv_at hl 0 rfl) ?_
    refine va_get (D := D) (ci := 7) (v := .ref (a 3)) (C := RX8) (T := TX8) (N := 17) hx hb hts hi_X8_fault_X8 hown hK.1 hP 0 rfl rfl 2 (by decide) (hts _ k_X8_fault_1) (fun _ h9 => h9) rfl dX8_fault_10 ?_
    refine lv_iload_n hx hb dX8_fault_13 rfl (lv_at hl 1 rfl) ?_
    obtain ⟨hi, h⟩ := h
    refine x_iald (v := textSizes t.toNatClampNeg) hx hb hK hP 3 rfl hi rfl dX8_fault_14 ?_
    refine lv_if_ge (tgt := 26) hx hb dX8_fault_15 (by decide) (fun hc => ?_) (fun hc => ?_)
    · have h := h.1 hc
      refine lv_aload_n hx hb dX8_fault_26 rfl (lv_at hl 0 rfl) ?_
      refine lv_iload_n hx hb dX8_fault_27 rfl (lv_at hl 1 rfl) ?_
      refine wr_calli (ws1 := fun zu => W_X8 ca a rowSizes rows textSizes texts now keeps kept asked upper lower finding findings zu.1 zu.2 costs ways reach) (wr := ([] : List Nat).filterMap (fun zi => (W_X8 ca a rowSizes rows textSizes texts now keeps kept asked upper lower finding findings read at_ costs ways reach : va_W)[zi]?)) (n := 13) (va_runV (As := [.int t]) (rest := []) ⟨hx, hb, hml, hown, hts⟩ (c_X8_reads l D ca a rowSizes rows textSizes texts now keeps kept asked upper lower finding findings read at_ costs ways reach t _ (hD.subM [0, 1, 2, 3, 4, 5, 6, 7, 8, 9, 10, 11, 12] (by decide) rfl) h) (cwV 1 hts gX8_fault_X8_reads rfl rfl rfl (by decide +kernel) ⟨Nat.le_of_ble_eq_true rfl, Nat.le_of_ble_eq_true rfl⟩) (PcX.preV (q := (RX8, TX8, 17)) (ci := 7) (q0 := 0) hK hP rfl rfl hP) rfl rfl hl.1 rfl (lv_room (Nat.le_of_ble_eq_true rfl)) dX8_fault_28 ⟨Nat.le_of_ble_eq_true rfl, Nat.le_of_ble_eq_true rfl⟩) hP hD hS [0, 1, 2, 3, 4, 5, 6, 7, 8, 9, 10, 11, 12] [] rfl (fun _ => rfl) rfl (fun _ => rfl) (fun _ => rfl) (fun _ => rfl) (by decide +kernel) (by decide +kernel) (fun r2 zu H locs h hP hD hS => ?_)
      obtain ⟨read_3, at__4⟩ := zu
      have hP : va_P D vwCl (W_X8 ca a rowSizes rows textSizes texts now keeps kept asked upper lower finding findings read_3 at__4 costs ways reach) H := hP
      have hD : va_D _ (W_X8 ca a rowSizes rows textSizes texts now keeps kept asked upper lower finding findings read_3 at__4 costs ways reach) := hD
      try dsimp only at h
      exact W.iret (v := r2) hx hb hr (fun zt ht hW => ⟨⟨r2, (finding, findings, read_3, at__4), rfl, h, by rw [ht]; exact hP⟩, hS.F ht⟩) hS.2.2 dX8_fault_31
    · have h := h.2 hc
      refine lv_aload_n hx hb dX8_fault_18 rfl (lv_at hl 0 rfl) ?_
      refine lv_iconst (v := (1)) hx hb dX8_fault_19 (by decide) ?_
      refine wr_calli (ws1 := fun zu => W_X8 ca a rowSizes rows textSizes texts now keeps kept asked upper lower zu.1 zu.2 read at_ costs ways reach) (wr := ([] : List Nat).filterMap (fun zi => (W_X8 ca a rowSizes rows textSizes texts now keeps kept asked upper lower finding findings read at_ costs ways reach : va_W)[zi]?)) (n := 13) (va_runV (As := [.int (1 : Int32)]) (rest := []) ⟨hx, hb, hml, hown, hts⟩ (c_X8_found l D ca a rowSizes rows textSizes texts now keeps kept asked upper lower finding findings read at_ costs ways reach (1 : Int32) _ (hD.subM [0, 1, 2, 3, 4, 5, 6, 7, 8, 9, 10, 11, 12] (by decide) rfl) h) (cwV 1 hts gX8_fault_X8_found rfl rfl rfl (by decide +kernel) ⟨Nat.le_of_ble_eq_true rfl, Nat.le_of_ble_eq_true rfl⟩) (PcX.preV (q := (RX8, TX8, 17)) (ci := 7) (q0 := 0) hK hP rfl rfl hP) rfl rfl hl.1 rfl (lv_room (Nat.le_of_ble_eq_true rfl)) dX8_fault_20 ⟨Nat.le_of_ble_eq_true rfl, Nat.le_of_ble_eq_true rfl⟩) hP hD hS [0, 1, 2, 3, 4, 5, 6, 7, 8, 9, 10, 11, 12] [] rfl (fun _ => rfl) rfl (fun _ => rfl) (fun _ => rfl) (fun _ => rfl) (by decide +kernel) (by decide +kernel) (fun r5 zu H locs h hP hD hS => ?_)
      obtain ⟨finding_6, findings_7⟩ := zu
      have hP : va_P D vwCl (W_X8 ca a rowSizes rows textSizes texts now keeps kept asked upper lower finding_6 findings_7 read at_ costs ways reach) H := hP
      have hD : va_D _ (W_X8 ca a rowSizes rows textSizes texts now keeps kept asked upper lower finding_6 findings_7 read at_ costs ways reach) := hD
      try dsimp only at h
      refine lv_goto (tgt := 31) hx hb dX8_fault_23 (by decide) ?_
      exact W.iret (v := r5) hx hb hr (fun zt ht hW => ⟨⟨r5, (finding_6, findings_7, read, at_), rfl, h, by rw [ht]; exact hP⟩, hS.F ht⟩) hS.2.2 dX8_fault_31
  · have h := h.2 hc
    refine lv_iconst (v := (-1)) hx hb dX8_fault_7 (by decide) ?_
    exact W.iret (v := (-1 : Int32)) hx hb hr (fun zt ht hW => ⟨⟨(-1 : Int32), (finding, findings, read, at_), rfl, h, by rw [ht]; exact hP⟩, hS.F ht⟩) hS.2.2 dX8_fault_8

-- IronedQuarrelsModel.copies([II[II)V
def wb_X8_copies_3 (from_n : Nat) (from_data : Nat → Int32) (to_n : Nat) (i : Int32) (j : Int32) (post : (Nat → Int32) → Prop) (K3 : (Nat → Int32) → (Int32) → Prop) (to_data : Nat → Int32) (x4 : Int32) : Prop :=
  ((115 : Int32) ≤ x4 → (post to_data)) ∧ (¬ (115 : Int32) ≤ x4 → (vp_in (i + x4) from_n ∧ vp_in (j + x4) to_n ∧ K3 (upd to_data ((j + x4).toNatClampNeg) (from_data (i + x4).toNatClampNeg)) (x4 + 1)))
def wl_X8_copies_3 (from_n : Nat) (from_data : Nat → Int32) (to_n : Nat) (i : Int32) (j : Int32) (post : (Nat → Int32) → Prop) : Nat → (Nat → Int32) → (Int32) → Prop
  | 0 => fun _ _ => False
  | zn + 1 => wb_X8_copies_3 from_n from_data to_n i j post (wl_X8_copies_3 from_n from_data to_n i j post zn)
def wp_X8_copies (from_n : Nat) (from_data : Nat → Int32) (to_n : Nat) (to_data : Nat → Int32) (i : Int32) (j : Int32) (post : (Nat → Int32) → Prop) : Prop :=
  ∃ zn, wl_X8_copies_3 from_n from_data to_n i j post zn to_data (0 : Int32)
def rm_X8_copies : Room := { frames := 0, cells := 0, slots := 0, locals := 0 }
set_option maxHeartbeats 4000000 in
set_option maxRecDepth 100000 in
theorem c_X8_copies (l : Launch) (D : va_G) (ca : Nat → ClassId) (a_from : Nat) (a_to : Nat) (from_n : Nat) (from_data : Nat → Int32) (to_n : Nat) (to_data : Nat → Int32) (i : Int32) (j : Int32) (post : (Nat → Int32) → Prop) (hd : va_D (fun _ => True) ((W_AI ca a_from from_n from_data) ++ (W_AI ca a_to to_n to_data))) (h : wp_X8_copies from_n from_data to_n to_data i j post) : Met l yX8_copies wsX8_copies rm_X8_copies (PcX D ca [.ref a_from, .int i, .ref a_to, .int j] ((W_AI ca a_from from_n from_data) ++ (W_AI ca a_to to_n to_data))) (wrV (S := (Nat → Int32)) D ((W_AI ca a_from from_n from_data) ++ (W_AI ca a_to to_n to_data)) (fun zu => (W_AI ca a_from from_n from_data) ++ (W_AI ca a_to to_n zu)) (fun zu => post zu)) 0 0 (adr ((W_AI ca a_from from_n from_data) ++ (W_AI ca a_to to_n to_data))) := by
  refine Met.ofW (cc := cX8_copies) (maxL := 5) (ret := none) (by decide) rfl ?_
  intro zp ze zs zm za zb zt zc z1 B hml hv
  obtain ⟨rfl, hP, hK⟩ := hv
  have hx := B.exec
  have hb := B.bytes
  have hr := B.returns
  have hts := atoms_spec (ws := wsX8_copies) B.pre
  have hown : zs.vm.findClass RX8 = some zm.cls := findClass_of_methodNamed B.named
  have hlocks := B.notSynchronized
  have hD : va_D (adr ((W_AI ca a_from from_n from_data) ++ (W_AI ca a_to to_n to_data))) ((W_AI ca a_from from_n from_data) ++ (W_AI ca a_to to_n to_data)) := hd.adr
  have hS : va_S (adr ((W_AI ca a_from from_n from_data) ++ (W_AI ca a_to to_n to_data))) zs.heap zs.heap [] := va_S.rf
  have hl := lv_entry ([.ref a_from, .int i, .ref a_to, .int j]) (n := 5) (Nat.le_of_ble_eq_true rfl)
  rw [lg_entry_eq]
  generalize (lg_sl ([.ref a_from, .int i, .ref a_to, .int j]) ++ List.replicate (5 - (lg_sl ([.ref a_from, .int i, .ref a_to, .int j])).length) Slot.unset).toArray = ls at hl ⊢
  replace hl : lv_has ls 5 [(0, .ref a_from), (1, .int i), (2, .ref a_to), (3, .int j)] := hl
  show W zp l ze rm_X8_copies zs zm ([.ref a_from, .int i, .ref a_to, .int j] : List Value).toArray zb zt zc zs.heap [] 0 0 (MQ zb (wrV (S := (Nat → Int32)) D ((W_AI ca a_from from_n from_data) ++ (W_AI ca a_to to_n to_data)) (fun zu => (W_AI ca a_from from_n from_data) ++ (W_AI ca a_to to_n zu)) (fun zu => post zu)) ([.ref a_from, .int i, .ref a_to, .int j] : List Value).toArray zs 0 0 (adr ((W_AI ca a_from from_n from_data) ++ (W_AI ca a_to to_n to_data)))) (F0 zm 0 ls [])
  have w_3 : ∀ (zn : Nat) (to_data : Nat → Int32) (x4 : Int32), wl_X8_copies_3 from_n from_data to_n i j post zn to_data x4 → ∀ (H : Heap) (locs : List Loc), va_P D vwCl ((W_AI ca a_from from_n from_data) ++ (W_AI ca a_to to_n to_data)) H → va_D (adr ((W_AI ca a_from from_n from_data) ++ (W_AI ca a_to to_n to_data))) ((W_AI ca a_from from_n from_data) ++ (W_AI ca a_to to_n to_data)) → va_S (adr ((W_AI ca a_from from_n from_data) ++ (W_AI ca a_to to_n to_data))) zs.heap H locs → ∀ ls : Array Slot, lv_has ls 5 [(0, .ref a_from), (1, .int i), (2, .ref a_to), (3, .int j), (4, .int x4)] → W zp l ze rm_X8_copies zs zm ([.ref a_from, .int i, .ref a_to, .int j] : List Value).toArray zb zt zc H locs 0 0 (MQ zb (wrV (S := (Nat → Int32)) D ((W_AI ca a_from from_n from_data) ++ (W_AI ca a_to to_n to_data)) (fun zu => (W_AI ca a_from from_n from_data) ++ (W_AI ca a_to to_n zu)) (fun zu => post zu)) ([.ref a_from, .int i, .ref a_to, .int j] : List Value).toArray zs 0 0 (adr ((W_AI ca a_from from_n from_data) ++ (W_AI ca a_to to_n to_data)))) (F0 zm 3 ls []) := by
    intro zn
    induction zn with
    | zero => intro to_data x4 h; exact h.elim
    | succ zn ih3 =>
      intro to_data x4 h H locs hP hD hS ls hl
      replace h : wb_X8_copies_3 from_n from_data to_n i j post (wl_X8_copies_3 from_n from_data to_n i j post zn) to_data x4 := h
      unfold wb_X8_copies_3 at h
      refine lv_iload hx hb dX8_copies_3 (lv_at hl 4 rfl) ?_
      refine lv_bipush (v := (115)) hx hb dX8_copies_5 (by decide) ?_
      refine lv_icmp_ge (tgt := 28) hx hb dX8_copies_7 (by decide) (fun hc => ?_) (fun hc => ?_)
      · have h := h.1 hc
        exact W.vret hx hb hr (fun zt ht hW => ⟨⟨to_data, rfl, h, by rw [ht]; exact hP⟩, hS.F ht⟩) hS.2.2 dX8_copies_28
      · have h := h.2 hc
        refine lv_aload_n hx hb dX8_copies_10 rfl (lv_at hl 2 rfl) ?_
        refine lv_iload_n hx hb dX8_copies_11 rfl (lv_at hl 3 rfl) ?_
        refine lv_iload hx hb dX8_copies_12 (lv_at hl 4 rfl) ?_
        refine lv_iadd hx hb dX8_copies_14 ?_
        refine lv_aload_n hx hb dX8_copies_15 rfl (lv_at hl 0 rfl) ?_
        refine lv_iload_n hx hb dX8_copies_16 rfl (lv_at hl 1 rfl) ?_
        refine lv_iload hx hb dX8_copies_17 (lv_at hl 4 rfl) ?_
        refine lv_iadd hx hb dX8_copies_19 ?_
        obtain ⟨hi, h⟩ := h
        refine x_iald (v := from_data (i + x4).toNatClampNeg) hx hb hK hP 0 rfl hi rfl dX8_copies_20 ?_
        obtain ⟨hi, h⟩ := h
        refine x_iast (ws' := (W_AI ca a_from from_n from_data) ++ (W_AI ca a_to to_n (upd to_data ((j + x4).toNatClampNeg) (from_data (i + x4).toNatClampNeg)))) hx hb hK hP hD hS 1 rfl hi (k := ((j + x4).toNatClampNeg)) rfl rfl dX8_copies_21 (fun H locs hP hD hS => ?_)
        refine lv_iinc (v := x4 + 1) (lv' := [(4, .int (x4 + 1)), (0, .ref a_from), (1, .int i), (2, .ref a_to), (3, .int j)]) hx hb dX8_copies_22 hl (k := 4) rfl rfl (by decide) rfl (fun ls hl => ?_)
        refine lv_goto (tgt := 3) hx hb dX8_copies_25 (by decide) ?_
        exact ih3 (upd to_data ((j + x4).toNatClampNeg) (from_data (i + x4).toNatClampNeg)) (x4 + 1) h _ _ hP hD hS ls (lv_sub hl [1, 2, 3, 4, 0] rfl)
  unfold wp_X8_copies at h
  refine lv_iconst (v := (0)) hx hb dX8_copies_0 (by decide) ?_
  refine lv_istore (lv' := [(4, .int (0 : Int32)), (0, .ref a_from), (1, .int i), (2, .ref a_to), (3, .int j)]) hx hb dX8_copies_1 hl (by decide) rfl (fun ls hl => ?_)
  obtain ⟨zn, h⟩ := h
  exact w_3  zn to_data (0 : Int32) h _ _ hP hD hS ls (lv_sub hl [1, 2, 3, 4, 0] rfl)

-- IronedQuarrelsModel.heap(I)I
def wb_X8_heap_52 (post : Int32 → (Nat → Int32) → (Nat → Int32) → (Int32) → (Nat → Int32) → (Nat → Int32) → (Int32) → Prop) (K52 : (Nat → Int32) → (Nat → Int32) → (Int32) → (Nat → Int32) → (Nat → Int32) → (Int32) → (Int32) → Prop) (now : Nat → Int32) (kept : Nat → Int32) (finding : Int32) (findings : Nat → Int32) (read : Nat → Int32) (at_ : Int32) (x2 : Int32) : Prop :=
  ((3 : Int32) ≤ x2 → (post (now 0) now kept finding findings read at_)) ∧ (¬ (3 : Int32) ≤ x2 → (vp_in x2 3 ∧ K52 now (upd kept (x2.toNatClampNeg) (vp_nar .boolean (0 : Int32))) finding findings read at_ (x2 + 1)))
def wl_X8_heap_52 (post : Int32 → (Nat → Int32) → (Nat → Int32) → (Int32) → (Nat → Int32) → (Nat → Int32) → (Int32) → Prop) : Nat → (Nat → Int32) → (Nat → Int32) → (Int32) → (Nat → Int32) → (Nat → Int32) → (Int32) → (Int32) → Prop
  | 0 => fun _ _ _ _ _ _ _ => False
  | zn + 1 => wb_X8_heap_52 post (wl_X8_heap_52 post zn)
def wp_X8_heap (textSizes : Nat → Int32) (texts : Nat → Int32) (now : Nat → Int32) (kept : Nat → Int32) (finding : Int32) (findings : Nat → Int32) (read : Nat → Int32) (at_ : Int32) (t : Int32) (post : Int32 → (Nat → Int32) → (Nat → Int32) → (Int32) → (Nat → Int32) → (Nat → Int32) → (Int32) → Prop) : Prop :=
  wp_X8_isText t (fun r1 => (¬ r1 = 0 → (vp_in t 4 ∧ (0 ≤ (textSizes t.toNatClampNeg) → (wp_X8_reads textSizes texts read at_ t (fun r2 read_3 at__4 => (r2 = (-9 : Int32) → (wp_X8_copies 115 read_3 115 now (0 : Int32) (0 : Int32) (fun now_5 => ∃ zn, wl_X8_heap_52 post zn now_5 kept finding findings read_3 at__4 (0 : Int32)))) ∧ (¬ r2 = (-9 : Int32) → (post (-4 : Int32) now kept finding findings read_3 at__4))))) ∧ (¬ 0 ≤ (textSizes t.toNatClampNeg) → (wp_X8_found findings (1 : Int32) (fun r6 finding_7 findings_8 => post r6 now kept finding_7 findings_8 read at_))))) ∧ (r1 = 0 → (post (-1 : Int32) now kept finding findings read at_)))
def rm_X8_heap : Room := { frames := 4, cells := 0, slots := 0, locals := 96 }
theorem k_X8_heap_1 : Cond.fieldLink RX8 16 "IronedQuarrelsModel" "textSizes" "[I" ∈ wsX8_heap := List.mem_of_getElem? (i := 1) (by decide +kernel)
theorem k_X8_heap_2 : Cond.fieldLink RX8 39 "IronedQuarrelsModel" "read" "[I" ∈ wsX8_heap := List.mem_of_getElem? (i := 2) (by decide +kernel)
theorem k_X8_heap_3 : Cond.fieldLink RX8 22 "IronedQuarrelsModel" "now" "[I" ∈ wsX8_heap := List.mem_of_getElem? (i := 3) (by decide +kernel)
theorem k_X8_heap_4 : Cond.fieldLink RX8 28 "IronedQuarrelsModel" "kept" "[Z" ∈ wsX8_heap := List.mem_of_getElem? (i := 4) (by decide +kernel)
theorem hi_X8_heap_X8 : ∀ w ∈ wsX80, w ∈ wsX8_heap := fun w h => List.mem_cons_of_mem _ (List.mem_append_right _ h)
set_option maxHeartbeats 4000000 in
set_option maxRecDepth 100000 in
theorem c_X8_heap (l : Launch) (D : va_G) (ca : Nat → ClassId) (a : Nat → Nat) (rowSizes : Nat → Int32) (rows : Nat → Int32) (textSizes : Nat → Int32) (texts : Nat → Int32) (now : Nat → Int32) (keeps : Nat → Int32) (kept : Nat → Int32) (asked : Int32) (upper : Int64) (lower : Int64) (finding : Int32) (findings : Nat → Int32) (read : Nat → Int32) (at_ : Int32) (costs : Nat → Int32) (ways : Nat → Int64) (reach : Nat → Int32) (t : Int32) (post : Int32 → (Nat → Int32) → (Nat → Int32) → (Int32) → (Nat → Int32) → (Nat → Int32) → (Int32) → Prop) (hd : va_D (fun _ => True) (W_X8 ca a rowSizes rows textSizes texts now keeps kept asked upper lower finding findings read at_ costs ways reach)) (h : wp_X8_heap textSizes texts now kept finding findings read at_ t post) : Met l yX8_heap wsX8_heap rm_X8_heap (PcX D ca [.ref (a 0), .int t] (W_X8 ca a rowSizes rows textSizes texts now keeps kept asked upper lower finding findings read at_ costs ways reach)) (wrI (S := (Nat → Int32) × (Nat → Int32) × (Int32) × (Nat → Int32) × (Nat → Int32) × (Int32)) D (W_X8 ca a rowSizes rows textSizes texts now keeps kept asked upper lower finding findings read at_ costs ways reach) (fun zu => W_X8 ca a rowSizes rows textSizes texts zu.1 keeps zu.2.1 asked upper lower zu.2.2.1 zu.2.2.2.1 zu.2.2.2.2.1 zu.2.2.2.2.2 costs ways reach) (fun zr zu => post zr zu.1 zu.2.1 zu.2.2.1 zu.2.2.2.1 zu.2.2.2.2.1 zu.2.2.2.2.2)) 0 0 (adr (W_X8 ca a rowSizes rows textSizes texts now keeps kept asked upper lower finding findings read at_ costs ways reach)) := by
  refine Met.ofW (cc := cX8_heap) (maxL := 3) (ret := (some .int)) (by decide) rfl ?_
  intro zp ze zs zm za zb zt zc z1 B hml hv
  obtain ⟨rfl, hP, hK⟩ := hv
  have hx := B.exec
  have hb := B.bytes
  have hr := B.returns
  have hts := atoms_spec (ws := wsX8_heap) B.pre
  have hown : zs.vm.findClass RX8 = some zm.cls := findClass_of_methodNamed B.named
  have hlocks := B.notSynchronized
  have hD : va_D (adr (W_X8 ca a rowSizes rows textSizes texts now keeps kept asked upper lower finding findings read at_ costs ways reach)) (W_X8 ca a rowSizes rows textSizes texts now keeps kept asked upper lower finding findings read at_ costs ways reach) := hd.adr
  have hS : va_S (adr (W_X8 ca a rowSizes rows textSizes texts now keeps kept asked upper lower finding findings read at_ costs ways reach)) zs.heap zs.heap [] := va_S.rf
  have hl := lv_entry ([.ref (a 0), .int t]) (n := 3) (Nat.le_of_ble_eq_true rfl)
  rw [lg_entry_eq]
  generalize (lg_sl ([.ref (a 0), .int t]) ++ List.replicate (3 - (lg_sl ([.ref (a 0), .int t])).length) Slot.unset).toArray = ls at hl ⊢
  replace hl : lv_has ls 3 [(0, .ref (a 0)), (1, .int t)] := hl
  show W zp l ze rm_X8_heap zs zm ([.ref (a 0), .int t] : List Value).toArray zb zt zc zs.heap [] 0 0 (MQ zb (wrI (S := (Nat → Int32) × (Nat → Int32) × (Int32) × (Nat → Int32) × (Nat → Int32) × (Int32)) D (W_X8 ca a rowSizes rows textSizes texts now keeps kept asked upper lower finding findings read at_ costs ways reach) (fun zu => W_X8 ca a rowSizes rows textSizes texts zu.1 keeps zu.2.1 asked upper lower zu.2.2.1 zu.2.2.2.1 zu.2.2.2.2.1 zu.2.2.2.2.2 costs ways reach) (fun zr zu => post zr zu.1 zu.2.1 zu.2.2.1 zu.2.2.2.1 zu.2.2.2.2.1 zu.2.2.2.2.2)) ([.ref (a 0), .int t] : List Value).toArray zs 0 0 (adr (W_X8 ca a rowSizes rows textSizes texts now keeps kept asked upper lower finding findings read at_ costs ways reach))) (F0 zm 0 ls [])
  have w_52 : ∀ (zn : Nat) (now : Nat → Int32) (kept : Nat → Int32) (finding : Int32) (findings : Nat → Int32) (read : Nat → Int32) (at_ : Int32) (x2 : Int32), wl_X8_heap_52 post zn now kept finding findings read at_ x2 → ∀ (H : Heap) (locs : List Loc), va_P D vwCl (W_X8 ca a rowSizes rows textSizes texts now keeps kept asked upper lower finding findings read at_ costs ways reach) H → va_D (adr (W_X8 ca a rowSizes rows textSizes texts now keeps kept asked upper lower finding findings read at_ costs ways reach)) (W_X8 ca a rowSizes rows textSizes texts now keeps kept asked upper lower finding findings read at_ costs ways reach) → va_S (adr (W_X8 ca a rowSizes rows textSizes texts now keeps kept asked upper lower finding findings read at_ costs ways reach)) zs.heap H locs → ∀ ls : Array Slot, lv_has ls 3 [(0, .ref (a 0)), (2, .int x2)] → W zp l ze rm_X8_heap zs zm ([.ref (a 0), .int t] : List Value).toArray zb zt zc H locs 0 0 (MQ zb (wrI (S := (Nat → Int32) × (Nat → Int32) × (Int32) × (Nat → Int32) × (Nat → Int32) × (Int32)) D (W_X8 ca a rowSizes rows textSizes texts now keeps kept asked upper lower finding findings read at_ costs ways reach) (fun zu => W_X8 ca a rowSizes rows textSizes texts zu.1 keeps zu.2.1 asked upper lower zu.2.2.1 zu.2.2.2.1 zu.2.2.2.2.1 zu.2.2.2.2.2 costs ways reach) (fun zr zu => post zr zu.1 zu.2.1 zu.2.2.1 zu.2.2.2.1 zu.2.2.2.2.1 zu.2.2.2.2.2)) ([.ref (a 0), .int t] : List Value).toArray zs 0 0 (adr (W_X8 ca a rowSizes rows textSizes texts now keeps kept asked upper lower finding findings read at_ costs ways reach))) (F0 zm 52 ls []) := by
    intro zn
    induction zn with
    | zero => intro now kept finding findings read at_ x2 h; exact h.elim
    | succ zn ih52 =>
      intro now kept finding findings read at_ x2 h H locs hP hD hS ls hl
      replace h : wb_X8_heap_52 post (wl_X8_heap_52 post zn) now kept finding findings read at_ x2 := h
      unfold wb_X8_heap_52 at h
      refine lv_iload_n hx hb dX8_heap_52 rfl (lv_at hl 1 rfl) ?_
      refine lv_iconst (v := (3)) hx hb dX8_heap_53 (by decide) ?_
      refine lv_icmp_ge (tgt := 70) hx hb dX8_heap_54 (by decide) (fun hc => ?_) (fun hc => ?_)
      · have h := h.1 hc
        refine lv_aload_n hx hb dX8_heap_70 rfl (lv_at hl 0 rfl) ?_
        refine va_get (D := D) (ci := 7) (v := .ref (a 5)) (C := RX8) (T := TX8) (N := 17) hx hb hts hi_X8_heap_X8 hown hK.1 hP 0 rfl rfl 4 (by decide) (hts _ k_X8_heap_3) (fun _ h9 => h9) rfl dX8_heap_71 ?_
        refine lv_iconst (v := (0)) hx hb dX8_heap_74 (by decide) ?_
        refine x_iald (v := now 0) hx hb hK hP 5 rfl (vin_lit (by decide)) rfl dX8_heap_75 ?_
        exact W.iret (v := now 0) hx hb hr (fun zt ht hW => ⟨⟨now 0, (now, kept, finding, findings, read, at_), rfl, h, by rw [ht]; exact hP⟩, hS.F ht⟩) hS.2.2 dX8_heap_76
      · have h := h.2 hc
        refine lv_aload_n hx hb dX8_heap_57 rfl (lv_at hl 0 rfl) ?_
        refine va_get (D := D) (ci := 7) (v := .ref (a 7)) (C := RX8) (T := TX8) (N := 17) hx hb hts hi_X8_heap_X8 hown hK.1 hP 0 rfl rfl 6 (by decide) (hts _ k_X8_heap_4) (fun _ h9 => h9) rfl dX8_heap_58 ?_
        refine lv_iload_n hx hb dX8_heap_61 rfl (lv_at hl 1 rfl) ?_
        refine lv_iconst (v := (0)) hx hb dX8_heap_62 (by decide) ?_
        obtain ⟨hi, h⟩ := h
        refine x_zast (ws' := W_X8 ca a rowSizes rows textSizes texts now keeps (upd kept (x2.toNatClampNeg) (vp_nar .boolean (0 : Int32))) asked upper lower finding findings read at_ costs ways reach) hx hb hK hP hD hS 7 rfl hi (k := (x2.toNatClampNeg)) rfl rfl dX8_heap_63 (fun H locs hP hD hS => ?_)
        refine lv_iinc (v := x2 + 1) (lv' := [(2, .int (x2 + 1)), (0, .ref (a 0))]) hx hb dX8_heap_64 hl (k := 1) rfl rfl (by decide) rfl (fun ls hl => ?_)
        refine lv_goto (tgt := 52) hx hb dX8_heap_67 (by decide) ?_
        exact ih52 now (upd kept (x2.toNatClampNeg) (vp_nar .boolean (0 : Int32))) finding findings read at_ (x2 + 1) h _ _ hP hD hS ls (lv_sub hl [1, 0] rfl)
  unfold wp_X8_heap at h
  refine lv_iload_n hx hb dX8_heap_0 rfl (lv_at hl 1 rfl) ?_
  refine rd_callz (va_runS (As := [.int t]) (rest := []) ⟨hx, hb, hml, hown, hts⟩ (c_X8_isText l D ca   t _ h) (va_cwS 1 hts gX8_heap_X8_isText rfl rfl rfl (by decide +kernel) ⟨Nat.le_of_ble_eq_true rfl, Nat.le_of_ble_eq_true rfl⟩) (PcX.preS hK (fun zk zq zh => by simp at zh)) rfl rfl hl.1 rfl (lv_room (Nat.le_of_ble_eq_true rfl)) dX8_heap_1 ⟨Nat.le_of_ble_eq_true rfl, Nat.le_of_ble_eq_true rfl⟩) (fun r1 h hz_r1 => ?_)
  try dsimp only at h
  refine lv_if_ne (tgt := 9) hx hb dX8_heap_4 (by decide) (fun hc => ?_) (fun hc => ?_)
  · have h := h.1 hc
    refine lv_aload_n hx hb dX8_heap_9 rfl (lv_at hl 0 rfl) ?_
    refine va_get (D := D) (ci := 7) (v := .ref (a 3)) (C := RX8) (T := TX8) (N := 17) hx hb hts hi_X8_heap_X8 hown hK.1 hP 0 rfl rfl 2 (by decide) (hts _ k_X8_heap_1) (fun _ h9 => h9) rfl dX8_heap_10 ?_
    refine lv_iload_n hx hb dX8_heap_13 rfl (lv_at hl 1 rfl) ?_
    obtain ⟨hi, h⟩ := h
    refine x_iald (v := textSizes t.toNatClampNeg) hx hb hK hP 3 rfl hi rfl dX8_heap_14 ?_
    refine lv_if_ge (tgt := 24) hx hb dX8_heap_15 (by decide) (fun hc => ?_) (fun hc => ?_)
    · have h := h.1 hc
      refine lv_aload_n hx hb dX8_heap_24 rfl (lv_at hl 0 rfl) ?_
      refine lv_iload_n hx hb dX8_heap_25 rfl (lv_at hl 1 rfl) ?_
      refine wr_calli (ws1 := fun zu => W_X8 ca a rowSizes rows textSizes texts now keeps kept asked upper lower finding findings zu.1 zu.2 costs ways reach) (wr := ([] : List Nat).filterMap (fun zi => (W_X8 ca a rowSizes rows textSizes texts now keeps kept asked upper lower finding findings read at_ costs ways reach : va_W)[zi]?)) (n := 13) (va_runV (As := [.int t]) (rest := []) ⟨hx, hb, hml, hown, hts⟩ (c_X8_reads l D ca a rowSizes rows textSizes texts now keeps kept asked upper lower finding findings read at_ costs ways reach t _ (hD.subM [0, 1, 2, 3, 4, 5, 6, 7, 8, 9, 10, 11, 12] (by decide) rfl) h) (cwV 1 hts gX8_heap_X8_reads rfl rfl rfl (by decide +kernel) ⟨Nat.le_of_ble_eq_true rfl, Nat.le_of_ble_eq_true rfl⟩) (PcX.preV (q := (RX8, TX8, 17)) (ci := 7) (q0 := 0) hK hP rfl rfl hP) rfl rfl hl.1 rfl (lv_room (Nat.le_of_ble_eq_true rfl)) dX8_heap_26 ⟨Nat.le_of_ble_eq_true rfl, Nat.le_of_ble_eq_true rfl⟩) hP hD hS [0, 1, 2, 3, 4, 5, 6, 7, 8, 9, 10, 11, 12] [] rfl (fun _ => rfl) rfl (fun _ => rfl) (fun _ => rfl) (fun _ => rfl) (by decide +kernel) (by decide +kernel) (fun r2 zu H locs h hP hD hS => ?_)
      obtain ⟨read_3, at__4⟩ := zu
      have hP : va_P D vwCl (W_X8 ca a rowSizes rows textSizes texts now keeps kept asked upper lower finding findings read_3 at__4 costs ways reach) H := hP
      have hD : va_D _ (W_X8 ca a rowSizes rows textSizes texts now keeps kept asked upper lower finding findings read_3 at__4 costs ways reach) := hD
      try dsimp only at h
      refine lv_bipush (v := (-9)) hx hb dX8_heap_29 (by decide) ?_
      refine lv_icmp_eq (tgt := 37) hx hb dX8_heap_31 (by decide) (fun hc => ?_) (fun hc => ?_)
      · have h := h.1 hc
        refine lv_aload_n hx hb dX8_heap_37 rfl (lv_at hl 0 rfl) ?_
        refine va_get (D := D) (ci := 7) (v := .ref (a 9)) (C := RX8) (T := TX8) (N := 17) hx hb hts hi_X8_heap_X8 hown hK.1 hP 0 rfl rfl 12 (by decide) (hts _ k_X8_heap_2) (fun _ h9 => h9) rfl dX8_heap_38 ?_
        refine lv_iconst (v := (0)) hx hb dX8_heap_41 (by decide) ?_
        refine lv_aload_n hx hb dX8_heap_42 rfl (lv_at hl 0 rfl) ?_
        refine va_get (D := D) (ci := 7) (v := .ref (a 5)) (C := RX8) (T := TX8) (N := 17) hx hb hts hi_X8_heap_X8 hown hK.1 hP 0 rfl rfl 4 (by decide) (hts _ k_X8_heap_3) (fun _ h9 => h9) rfl dX8_heap_43 ?_
        refine lv_iconst (v := (0)) hx hb dX8_heap_46 (by decide) ?_
        refine wr_callv (ws1 := fun zu => W_X8 ca a rowSizes rows textSizes texts zu keeps kept asked upper lower finding findings read_3 at__4 costs ways reach) (wr := ([0, 1, 2, 3, 4, 6, 7, 8, 10, 11, 12] : List Nat).filterMap (fun zi => (W_X8 ca a rowSizes rows textSizes texts now keeps kept asked upper lower finding findings read_3 at__4 costs ways reach : va_W)[zi]?)) (n := 13) (va_runS (As := [.ref (a 9), .int (0 : Int32), .ref (a 5), .int (0 : Int32)]) (rest := []) ⟨hx, hb, hml, hown, hts⟩ (c_X8_copies l D ca (a 9) (a 5) 115 read_3 115 now (0 : Int32) (0 : Int32) _ (hD.subM [9, 5] (by decide) rfl) h) (va_cwS 4 hts gX8_heap_X8_copies rfl rfl rfl (by decide +kernel) ⟨Nat.le_of_ble_eq_true rfl, Nat.le_of_ble_eq_true rfl⟩) (PcX.preS hK (hP.subM [9, 5] rfl)) rfl rfl hl.1 rfl (lv_room (Nat.le_of_ble_eq_true rfl)) dX8_heap_47 ⟨Nat.le_of_ble_eq_true rfl, Nat.le_of_ble_eq_true rfl⟩) hP hD hS [9, 5] [0, 1, 2, 3, 4, 6, 7, 8, 10, 11, 12] rfl (fun _ => rfl) rfl (fun _ => rfl) (fun _ => rfl) (fun _ => rfl) (by decide +kernel) (by decide +kernel) (fun zu H locs h hP hD hS => ?_)
        obtain ⟨now_5, rfl⟩ : ∃ zz, zz = zu := ⟨zu, rfl⟩
        have hP : va_P D vwCl (W_X8 ca a rowSizes rows textSizes texts now_5 keeps kept asked upper lower finding findings read_3 at__4 costs ways reach) H := hP
        have hD : va_D _ (W_X8 ca a rowSizes rows textSizes texts now_5 keeps kept asked upper lower finding findings read_3 at__4 costs ways reach) := hD
        try dsimp only at h
        refine lv_iconst (v := (0)) hx hb dX8_heap_50 (by decide) ?_
        refine lv_istore_n (lv' := [(2, .int (0 : Int32)), (0, .ref (a 0)), (1, .int t)]) hx hb dX8_heap_51 rfl hl (by decide) rfl (fun ls hl => ?_)
        obtain ⟨zn, h⟩ := h
        exact w_52  zn now_5 kept finding findings read_3 at__4 (0 : Int32) h _ _ hP hD hS ls (lv_sub hl [1, 0] rfl)
      · have h := h.2 hc
        refine lv_bipush (v := (-4)) hx hb dX8_heap_34 (by decide) ?_
        exact W.iret (v := (-4 : Int32)) hx hb hr (fun zt ht hW => ⟨⟨(-4 : Int32), (now, kept, finding, findings, read_3, at__4), rfl, h, by rw [ht]; exact hP⟩, hS.F ht⟩) hS.2.2 dX8_heap_36
    · have h := h.2 hc
      refine lv_aload_n hx hb dX8_heap_18 rfl (lv_at hl 0 rfl) ?_
      refine lv_iconst (v := (1)) hx hb dX8_heap_19 (by decide) ?_
      refine wr_calli (ws1 := fun zu => W_X8 ca a rowSizes rows textSizes texts now keeps kept asked upper lower zu.1 zu.2 read at_ costs ways reach) (wr := ([] : List Nat).filterMap (fun zi => (W_X8 ca a rowSizes rows textSizes texts now keeps kept asked upper lower finding findings read at_ costs ways reach : va_W)[zi]?)) (n := 13) (va_runV (As := [.int (1 : Int32)]) (rest := []) ⟨hx, hb, hml, hown, hts⟩ (c_X8_found l D ca a rowSizes rows textSizes texts now keeps kept asked upper lower finding findings read at_ costs ways reach (1 : Int32) _ (hD.subM [0, 1, 2, 3, 4, 5, 6, 7, 8, 9, 10, 11, 12] (by decide) rfl) h) (cwV 1 hts gX8_heap_X8_found rfl rfl rfl (by decide +kernel) ⟨Nat.le_of_ble_eq_true rfl, Nat.le_of_ble_eq_true rfl⟩) (PcX.preV (q := (RX8, TX8, 17)) (ci := 7) (q0 := 0) hK hP rfl rfl hP) rfl rfl hl.1 rfl (lv_room (Nat.le_of_ble_eq_true rfl)) dX8_heap_20 ⟨Nat.le_of_ble_eq_true rfl, Nat.le_of_ble_eq_true rfl⟩) hP hD hS [0, 1, 2, 3, 4, 5, 6, 7, 8, 9, 10, 11, 12] [] rfl (fun _ => rfl) rfl (fun _ => rfl) (fun _ => rfl) (fun _ => rfl) (by decide +kernel) (by decide +kernel) (fun r6 zu H locs h hP hD hS => ?_)
      obtain ⟨finding_7, findings_8⟩ := zu
      have hP : va_P D vwCl (W_X8 ca a rowSizes rows textSizes texts now keeps kept asked upper lower finding_7 findings_8 read at_ costs ways reach) H := hP
      have hD : va_D _ (W_X8 ca a rowSizes rows textSizes texts now keeps kept asked upper lower finding_7 findings_8 read at_ costs ways reach) := hD
      try dsimp only at h
      exact W.iret (v := r6) hx hb hr (fun zt ht hW => ⟨⟨r6, (now, kept, finding_7, findings_8, read, at_), rfl, h, by rw [ht]; exact hP⟩, hS.F ht⟩) hS.2.2 dX8_heap_23
  · have h := h.2 hc
    refine lv_iconst (v := (-1)) hx hb dX8_heap_7 (by decide) ?_
    exact W.iret (v := (-1 : Int32)) hx hb hr (fun zt ht hW => ⟨⟨(-1 : Int32), (now, kept, finding, findings, read, at_), rfl, h, by rw [ht]; exact hP⟩, hS.F ht⟩) hS.2.2 dX8_heap_8

-- IronedQuarrelsModel.isSaying(I)Z
def wp_X8_isSaying (now : Nat → Int32) (i : Int32) (post : Int32 → Prop) : Prop :=
  wp_X8_in i.toInt64 (0 : Int64) (((now 0) - (1 : Int32)).toInt64) (fun r1 => post r1)
def rm_X8_isSaying : Room := { frames := 1, cells := 0, slots := 0, locals := 25 }
theorem k_X8_isSaying_1 : Cond.fieldLink RX8 22 "IronedQuarrelsModel" "now" "[I" ∈ wsX8_isSaying := List.mem_of_getElem? (i := 1) (by decide +kernel)
theorem hi_X8_isSaying_X8 : ∀ w ∈ wsX80, w ∈ wsX8_isSaying := fun w h => List.mem_cons_of_mem _ (List.mem_append_right _ h)
set_option maxHeartbeats 4000000 in
set_option maxRecDepth 100000 in
theorem c_X8_isSaying (l : Launch) (D : va_G) (ca : Nat → ClassId) (a : Nat → Nat) (rowSizes : Nat → Int32) (rows : Nat → Int32) (textSizes : Nat → Int32) (texts : Nat → Int32) (now : Nat → Int32) (keeps : Nat → Int32) (kept : Nat → Int32) (asked : Int32) (upper : Int64) (lower : Int64) (finding : Int32) (findings : Nat → Int32) (read : Nat → Int32) (at_ : Int32) (costs : Nat → Int32) (ways : Nat → Int64) (reach : Nat → Int32) (i : Int32) (post : Int32 → Prop) (h : wp_X8_isSaying now i post) : Met l yX8_isSaying wsX8_isSaying rm_X8_isSaying (PcX D ca [.ref (a 0), .int i] (W_X8 ca a rowSizes rows textSizes texts now keeps kept asked upper lower finding findings read at_ costs ways reach)) (rdZ post) 0 0 (fun _ => False) := by
  refine Met.ofW (cc := cX8_isSaying) (maxL := 2) (ret := (some .boolean)) (by decide) rfl ?_
  intro zp ze zs zm za zb zt zc z1 B hml hv
  obtain ⟨rfl, hP, hK⟩ := hv
  have hx := B.exec
  have hb := B.bytes
  have hr := B.returns
  have hts := atoms_spec (ws := wsX8_isSaying) B.pre
  have hown : zs.vm.findClass RX8 = some zm.cls := findClass_of_methodNamed B.named
  have hlocks := B.notSynchronized
  have hl := lv_entry ([.ref (a 0), .int i]) (n := 2) (Nat.le_of_ble_eq_true rfl)
  rw [lg_entry_eq]
  generalize (lg_sl ([.ref (a 0), .int i]) ++ List.replicate (2 - (lg_sl ([.ref (a 0), .int i])).length) Slot.unset).toArray = ls at hl ⊢
  replace hl : lv_has ls 2 [(0, .ref (a 0)), (1, .int i)] := hl
  show W zp l ze rm_X8_isSaying zs zm ([.ref (a 0), .int i] : List Value).toArray zb zt zc zs.heap [] 0 0 (MQ zb (rdZ post) ([.ref (a 0), .int i] : List Value).toArray zs 0 0 (fun _ => False)) (F0 zm 0 ls [])
  unfold wp_X8_isSaying at h
  refine lv_iload_n hx hb dX8_isSaying_0 rfl (lv_at hl 1 rfl) ?_
  refine lv_i2l hx hb dX8_isSaying_1 rfl ?_
  refine lv_lconst (v := (0)) hx hb dX8_isSaying_2 (by decide) ?_
  refine lv_aload_n hx hb dX8_isSaying_3 rfl (lv_at hl 0 rfl) ?_
  refine va_get (D := D) (ci := 7) (v := .ref (a 5)) (C := RX8) (T := TX8) (N := 17) hx hb hts hi_X8_isSaying_X8 hown hK.1 hP 0 rfl rfl 4 (by decide) (hts _ k_X8_isSaying_1) (fun _ h9 => h9) rfl dX8_isSaying_4 ?_
  refine lv_iconst (v := (0)) hx hb dX8_isSaying_7 (by decide) ?_
  refine x_iald (v := now 0) hx hb hK hP 5 rfl (vin_lit (by decide)) rfl dX8_isSaying_8 ?_
  refine lv_iconst (v := (1)) hx hb dX8_isSaying_9 (by decide) ?_
  refine lv_isub hx hb dX8_isSaying_10 ?_
  refine lv_i2l hx hb dX8_isSaying_11 rfl ?_
  refine rd_callz (va_runS (As := [.long i.toInt64, .long (0 : Int64), .long (((now 0) - (1 : Int32)).toInt64)]) (rest := []) ⟨hx, hb, hml, hown, hts⟩ (c_X8_in l D ca   i.toInt64 (0 : Int64) (((now 0) - (1 : Int32)).toInt64) _ h) (va_cwS 3 hts gX8_isSaying_X8_in rfl rfl rfl (by decide +kernel) ⟨Nat.le_of_ble_eq_true rfl, Nat.le_of_ble_eq_true rfl⟩) (PcX.preS hK (fun zk zq zh => by simp at zh)) rfl rfl hl.1 rfl (lv_room (Nat.le_of_ble_eq_true rfl)) dX8_isSaying_12 ⟨Nat.le_of_ble_eq_true rfl, Nat.le_of_ble_eq_true rfl⟩) (fun r1 h hz_r1 => ?_)
  try dsimp only at h
  exact W.zret (v := r1) hx hb hr hz_r1 (fun zt ht hW => ⟨r1, rfl, ⟨h, hz_r1⟩, ht⟩) (fun zq hq => absurd hq List.not_mem_nil) dX8_isSaying_15

-- IronedQuarrelsModel.isPerson(I)Z
def wp_X8_isPerson (p : Int32) (post : Int32 → Prop) : Prop :=
  wp_X8_in p.toInt64 (0 : Int64) (5 : Int64) (fun r1 => post r1)
def rm_X8_isPerson : Room := { frames := 1, cells := 0, slots := 0, locals := 25 }
theorem k_X8_isPerson_1 : Cond.constantLong RX8 59 (5) ∈ wsX8_isPerson := List.mem_of_getElem? (i := 1) (by decide +kernel)
set_option maxHeartbeats 4000000 in
set_option maxRecDepth 100000 in
theorem c_X8_isPerson (l : Launch) (D : va_G) (ca : Nat → ClassId)   (p : Int32) (post : Int32 → Prop) (h : wp_X8_isPerson p post) : Met l yX8_isPerson wsX8_isPerson rm_X8_isPerson (PcX D ca [.int p] ([])) (rdZ post) 0 0 (fun _ => False) := by
  refine Met.ofW (cc := cX8_isPerson) (maxL := 1) (ret := (some .boolean)) (by decide) rfl ?_
  intro zp ze zs zm za zb zt zc z1 B hml hv
  obtain ⟨rfl, hP, hK⟩ := hv
  have hx := B.exec
  have hb := B.bytes
  have hr := B.returns
  have hts := atoms_spec (ws := wsX8_isPerson) B.pre
  have hown : zs.vm.findClass RX8 = some zm.cls := findClass_of_methodNamed B.named
  have hlocks := B.notSynchronized
  have hl := lv_entry ([.int p]) (n := 1) (Nat.le_of_ble_eq_true rfl)
  rw [lg_entry_eq]
  generalize (lg_sl ([.int p]) ++ List.replicate (1 - (lg_sl ([.int p])).length) Slot.unset).toArray = ls at hl ⊢
  replace hl : lv_has ls 1 [(0, .int p)] := hl
  show W zp l ze rm_X8_isPerson zs zm ([.int p] : List Value).toArray zb zt zc zs.heap [] 0 0 (MQ zb (rdZ post) ([.int p] : List Value).toArray zs 0 0 (fun _ => False)) (F0 zm 0 ls [])
  unfold wp_X8_isPerson at h
  refine lv_iload_n hx hb dX8_isPerson_0 rfl (lv_at hl 0 rfl) ?_
  refine lv_i2l hx hb dX8_isPerson_1 rfl ?_
  refine lv_lconst (v := (0)) hx hb dX8_isPerson_2 (by decide) ?_
  refine lv_ldc2 (v := (5)) hx hb hown (hts _ k_X8_isPerson_1) dX8_isPerson_3 ?_
  refine rd_callz (va_runS (As := [.long p.toInt64, .long (0 : Int64), .long (5 : Int64)]) (rest := []) ⟨hx, hb, hml, hown, hts⟩ (c_X8_in l D ca   p.toInt64 (0 : Int64) (5 : Int64) _ h) (va_cwS 3 hts gX8_isPerson_X8_in rfl rfl rfl (by decide +kernel) ⟨Nat.le_of_ble_eq_true rfl, Nat.le_of_ble_eq_true rfl⟩) (PcX.preS hK (fun zk zq zh => by simp at zh)) rfl rfl hl.1 rfl (lv_room (Nat.le_of_ble_eq_true rfl)) dX8_isPerson_6 ⟨Nat.le_of_ble_eq_true rfl, Nat.le_of_ble_eq_true rfl⟩) (fun r1 h hz_r1 => ?_)
  try dsimp only at h
  exact W.zret (v := r1) hx hb hr hz_r1 (fun zt ht hW => ⟨r1, rfl, ⟨h, hz_r1⟩, ht⟩) (fun zq hq => absurd hq List.not_mem_nil) dX8_isPerson_9

-- IronedQuarrelsModel.has(II)Z
def wp_X8_has (set : Int32) (i : Int32) (post : Int32 → Prop) : Prop :=
  (¬ ((set >>> (i &&& 31)) &&& (1 : Int32)) = (1 : Int32) → (post (0 : Int32))) ∧ (((set >>> (i &&& 31)) &&& (1 : Int32)) = (1 : Int32) → (post (1 : Int32)))
def rm_X8_has : Room := { frames := 0, cells := 0, slots := 0, locals := 0 }
set_option maxHeartbeats 4000000 in
set_option maxRecDepth 100000 in
theorem c_X8_has (l : Launch) (D : va_G) (ca : Nat → ClassId)   (set : Int32) (i : Int32) (post : Int32 → Prop) (h : wp_X8_has set i post) : Met l yX8_has wsX8_has rm_X8_has (PcX D ca [.int set, .int i] ([])) (rdZ post) 0 0 (fun _ => False) := by
  refine Met.ofW (cc := cX8_has) (maxL := 2) (ret := (some .boolean)) (by decide) rfl ?_
  intro zp ze zs zm za zb zt zc z1 B hml hv
  obtain ⟨rfl, hP, hK⟩ := hv
  have hx := B.exec
  have hb := B.bytes
  have hr := B.returns
  have hts := atoms_spec (ws := wsX8_has) B.pre
  have hown : zs.vm.findClass RX8 = some zm.cls := findClass_of_methodNamed B.named
  have hlocks := B.notSynchronized
  have hl := lv_entry ([.int set, .int i]) (n := 2) (Nat.le_of_ble_eq_true rfl)
  rw [lg_entry_eq]
  generalize (lg_sl ([.int set, .int i]) ++ List.replicate (2 - (lg_sl ([.int set, .int i])).length) Slot.unset).toArray = ls at hl ⊢
  replace hl : lv_has ls 2 [(0, .int set), (1, .int i)] := hl
  show W zp l ze rm_X8_has zs zm ([.int set, .int i] : List Value).toArray zb zt zc zs.heap [] 0 0 (MQ zb (rdZ post) ([.int set, .int i] : List Value).toArray zs 0 0 (fun _ => False)) (F0 zm 0 ls [])
  unfold wp_X8_has at h
  refine lv_iload_n hx hb dX8_has_0 rfl (lv_at hl 0 rfl) ?_
  refine lv_iload_n hx hb dX8_has_1 rfl (lv_at hl 1 rfl) ?_
  refine lv_ishr hx hb dX8_has_2 ?_
  refine lv_iconst (v := (1)) hx hb dX8_has_3 (by decide) ?_
  refine lv_iand hx hb dX8_has_4 ?_
  refine lv_iconst (v := (1)) hx hb dX8_has_5 (by decide) ?_
  refine lv_icmp_ne (tgt := 13) hx hb dX8_has_6 (by decide) (fun hc => ?_) (fun hc => ?_)
  · have h := h.1 hc
    refine lv_iconst (v := (0)) hx hb dX8_has_13 (by decide) ?_
    exact W.zret (v := (0 : Int32)) hx hb hr nar0 (fun zt ht hW => ⟨(0 : Int32), rfl, ⟨h, nar0⟩, ht⟩) (fun zq hq => absurd hq List.not_mem_nil) dX8_has_14
  · have h := h.2 hc
    refine lv_iconst (v := (1)) hx hb dX8_has_9 (by decide) ?_
    refine lv_goto (tgt := 14) hx hb dX8_has_10 (by decide) ?_
    exact W.zret (v := (1 : Int32)) hx hb hr nar1 (fun zt ht hW => ⟨(1 : Int32), rfl, ⟨h, nar1⟩, ht⟩) (fun zq hq => absurd hq List.not_mem_nil) dX8_has_14

-- IronedQuarrelsModel.isOf(II)Z
def wb_X8_isOf_19 (own : Int32) (kind : Int32) (post : Int32 → Prop)  : Prop :=
  (¬ kind = (3 : Int32) → (post (0 : Int32))) ∧ (kind = (3 : Int32) → ((¬ own = (4 : Int32) → (post (0 : Int32))) ∧ (own = (4 : Int32) → (post (1 : Int32)))))
def wp_X8_isOf (own : Int32) (kind : Int32) (post : Int32 → Prop) : Prop :=
  (kind = 0 → (post (1 : Int32))) ∧ (¬ kind = 0 → ((own = kind → (post (1 : Int32))) ∧ (¬ own = kind → ((¬ kind = (1 : Int32) → (wb_X8_isOf_19 own kind post)) ∧ (kind = (1 : Int32) → ((own = (5 : Int32) → (post (1 : Int32))) ∧ (¬ own = (5 : Int32) → (wb_X8_isOf_19 own kind post))))))))
def rm_X8_isOf : Room := { frames := 0, cells := 0, slots := 0, locals := 0 }
set_option maxHeartbeats 4000000 in
set_option maxRecDepth 100000 in
theorem c_X8_isOf (l : Launch) (D : va_G) (ca : Nat → ClassId)   (own : Int32) (kind : Int32) (post : Int32 → Prop) (h : wp_X8_isOf own kind post) : Met l yX8_isOf wsX8_isOf rm_X8_isOf (PcX D ca [.int own, .int kind] ([])) (rdZ post) 0 0 (fun _ => False) := by
  refine Met.ofW (cc := cX8_isOf) (maxL := 2) (ret := (some .boolean)) (by decide) rfl ?_
  intro zp ze zs zm za zb zt zc z1 B hml hv
  obtain ⟨rfl, hP, hK⟩ := hv
  have hx := B.exec
  have hb := B.bytes
  have hr := B.returns
  have hts := atoms_spec (ws := wsX8_isOf) B.pre
  have hown : zs.vm.findClass RX8 = some zm.cls := findClass_of_methodNamed B.named
  have hlocks := B.notSynchronized
  have hl := lv_entry ([.int own, .int kind]) (n := 2) (Nat.le_of_ble_eq_true rfl)
  rw [lg_entry_eq]
  generalize (lg_sl ([.int own, .int kind]) ++ List.replicate (2 - (lg_sl ([.int own, .int kind])).length) Slot.unset).toArray = ls at hl ⊢
  replace hl : lv_has ls 2 [(0, .int own), (1, .int kind)] := hl
  show W zp l ze rm_X8_isOf zs zm ([.int own, .int kind] : List Value).toArray zb zt zc zs.heap [] 0 0 (MQ zb (rdZ post) ([.int own, .int kind] : List Value).toArray zs 0 0 (fun _ => False)) (F0 zm 0 ls [])
  have w_19 : ∀ (_ : Unit), wb_X8_isOf_19 own kind post  → ∀ ls : Array Slot, lv_has ls 2 [(0, .int own), (1, .int kind)] → W zp l ze rm_X8_isOf zs zm ([.int own, .int kind] : List Value).toArray zb zt zc zs.heap [] 0 0 (MQ zb (rdZ post) ([.int own, .int kind] : List Value).toArray zs 0 0 (fun _ => False)) (F0 zm 19 ls []) := by
    intro _ h ls hl
    unfold wb_X8_isOf_19 at h
    refine lv_iload_n hx hb dX8_isOf_19 rfl (lv_at hl 1 rfl) ?_
    refine lv_iconst (v := (3)) hx hb dX8_isOf_20 (by decide) ?_
    refine lv_icmp_ne (tgt := 33) hx hb dX8_isOf_21 (by decide) (fun hc => ?_) (fun hc => ?_)
    · have h := h.1 hc
      refine lv_iconst (v := (0)) hx hb dX8_isOf_33 (by decide) ?_
      exact W.zret (v := (0 : Int32)) hx hb hr nar0 (fun zt ht hW => ⟨(0 : Int32), rfl, ⟨h, nar0⟩, ht⟩) (fun zq hq => absurd hq List.not_mem_nil) dX8_isOf_34
    · have h := h.2 hc
      refine lv_iload_n hx hb dX8_isOf_24 rfl (lv_at hl 0 rfl) ?_
      refine lv_iconst (v := (4)) hx hb dX8_isOf_25 (by decide) ?_
      refine lv_icmp_ne (tgt := 33) hx hb dX8_isOf_26 (by decide) (fun hc => ?_) (fun hc => ?_)
      · have h := h.1 hc
        refine lv_iconst (v := (0)) hx hb dX8_isOf_33 (by decide) ?_
        exact W.zret (v := (0 : Int32)) hx hb hr nar0 (fun zt ht hW => ⟨(0 : Int32), rfl, ⟨h, nar0⟩, ht⟩) (fun zq hq => absurd hq List.not_mem_nil) dX8_isOf_34
      · have h := h.2 hc
        refine lv_iconst (v := (1)) hx hb dX8_isOf_29 (by decide) ?_
        refine lv_goto (tgt := 34) hx hb dX8_isOf_30 (by decide) ?_
        exact W.zret (v := (1 : Int32)) hx hb hr nar1 (fun zt ht hW => ⟨(1 : Int32), rfl, ⟨h, nar1⟩, ht⟩) (fun zq hq => absurd hq List.not_mem_nil) dX8_isOf_34
  unfold wp_X8_isOf at h
  refine lv_iload_n hx hb dX8_isOf_0 rfl (lv_at hl 1 rfl) ?_
  refine lv_if_eq (tgt := 29) hx hb dX8_isOf_1 (by decide) (fun hc => ?_) (fun hc => ?_)
  · have h := h.1 hc
    refine lv_iconst (v := (1)) hx hb dX8_isOf_29 (by decide) ?_
    refine lv_goto (tgt := 34) hx hb dX8_isOf_30 (by decide) ?_
    exact W.zret (v := (1 : Int32)) hx hb hr nar1 (fun zt ht hW => ⟨(1 : Int32), rfl, ⟨h, nar1⟩, ht⟩) (fun zq hq => absurd hq List.not_mem_nil) dX8_isOf_34
  · have h := h.2 hc
    refine lv_iload_n hx hb dX8_isOf_4 rfl (lv_at hl 0 rfl) ?_
    refine lv_iload_n hx hb dX8_isOf_5 rfl (lv_at hl 1 rfl) ?_
    refine lv_icmp_eq (tgt := 29) hx hb dX8_isOf_6 (by decide) (fun hc => ?_) (fun hc => ?_)
    · have h := h.1 hc
      refine lv_iconst (v := (1)) hx hb dX8_isOf_29 (by decide) ?_
      refine lv_goto (tgt := 34) hx hb dX8_isOf_30 (by decide) ?_
      exact W.zret (v := (1 : Int32)) hx hb hr nar1 (fun zt ht hW => ⟨(1 : Int32), rfl, ⟨h, nar1⟩, ht⟩) (fun zq hq => absurd hq List.not_mem_nil) dX8_isOf_34
    · have h := h.2 hc
      refine lv_iload_n hx hb dX8_isOf_9 rfl (lv_at hl 1 rfl) ?_
      refine lv_iconst (v := (1)) hx hb dX8_isOf_10 (by decide) ?_
      refine lv_icmp_ne (tgt := 19) hx hb dX8_isOf_11 (by decide) (fun hc => ?_) (fun hc => ?_)
      · have h := h.1 hc
        exact w_19  () h ls (lv_sub hl [0, 1] rfl)
      · have h := h.2 hc
        refine lv_iload_n hx hb dX8_isOf_14 rfl (lv_at hl 0 rfl) ?_
        refine lv_iconst (v := (5)) hx hb dX8_isOf_15 (by decide) ?_
        refine lv_icmp_eq (tgt := 29) hx hb dX8_isOf_16 (by decide) (fun hc => ?_) (fun hc => ?_)
        · have h := h.1 hc
          refine lv_iconst (v := (1)) hx hb dX8_isOf_29 (by decide) ?_
          refine lv_goto (tgt := 34) hx hb dX8_isOf_30 (by decide) ?_
          exact W.zret (v := (1 : Int32)) hx hb hr nar1 (fun zt ht hW => ⟨(1 : Int32), rfl, ⟨h, nar1⟩, ht⟩) (fun zq hq => absurd hq List.not_mem_nil) dX8_isOf_34
        · have h := h.2 hc
          exact w_19  () h ls (lv_sub hl [0, 1] rfl)
