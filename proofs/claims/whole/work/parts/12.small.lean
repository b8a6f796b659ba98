-- IronedQuarrels$Shelf.hasNumber(I)Z
def wp_X5_hasNumber (ns : Nat) (r : Int32) (post : Int32 → Prop) : Prop :=
  (r < 0 → (post (0 : Int32))) ∧ (¬ r < 0 → (((nI ns) ≤ r → (post (0 : Int32))) ∧ (¬ (nI ns) ≤ r → (post (1 : Int32)))))
def rm_X5_hasNumber : Room := { frames := 0, cells := 0, slots := 0, locals := 0 }
theorem k_X5_hasNumber_1 : Cond.fieldLink RX5 15 "IronedQuarrels$Shelf" "sizes" "[I" ∈ wsX5_hasNumber := List.mem_of_getElem? (i := 1) (by decide +kernel)
theorem hi_X5_hasNumber_X5 : ∀ w ∈ wsX50, w ∈ wsX5_hasNumber := fun w h => List.mem_cons_of_mem _ (List.mem_append_right _ h)
set_option maxHeartbeats 4000000 in
set_option maxRecDepth 100000 in
theorem c_X5_hasNumber (l : Launch) (D : va_G) (ca : Nat → ClassId) (a : Nat → Nat) (ns : Nat) (nc : Nat) (width : Int32) (sizes : Nat → Int32) (cells : Nat → Int32) (r : Int32) (post : Int32 → Prop) (h : wp_X5_hasNumber ns r post) : Met l yX5_hasNumber wsX5_hasNumber rm_X5_hasNumber (PcX D ca [.ref (a 0), .int r] (W_X5 ca a ns nc width sizes cells)) (rdZ post) 0 0 (fun _ => False) := by
  refine Met.ofW (cc := cX5_hasNumber) (maxL := 2) (ret := (some .boolean)) (by decide) rfl ?_
  intro zp ze zs zm za zb zt zc z1 B hml hv
  obtain ⟨rfl, hP, hK⟩ := hv
  have hx := B.exec
  have hb := B.bytes
  have hr := B.returns
  have hts := atoms_spec (ws := wsX5_hasNumber) B.pre
  have hown : zs.vm.findClass RX5 = some zm.cls := findClass_of_methodNamed B.named
  have hlocks := B.notSynchronized
  have hl := lv_entry ([.ref (a 0), .int r]) (n := 2) (Nat.le_of_ble_eq_true rfl)
  rw [lg_entry_eq]
  generalize (lg_sl ([.ref (a 0), .int r]) ++ List.replicate (2 - (lg_sl ([.ref (a 0), .int r])).length) Slot.unset).toArray = ls at hl ⊢
  replace hl : lv_has ls 2 [(0, .ref (a 0)), (1, .int r)] := hl
  show W zp l ze rm_X5_hasNumber zs zm ([.ref (a 0), .int r] : List Value).toArray zb zt zc zs.heap [] 0 0 (MQ zb (rdZ post) ([.ref (a 0), .int r] : List Value).toArray zs 0 0 (fun _ => False)) (F0 zm 0 ls [])
  unfold wp_X5_hasNumber at h
  refine lv_iload_n hx hb dX5_hasNumber_0 rfl (lv_at hl 1 rfl) ?_
  refine lv_if_lt (tgt := 17) hx hb dX5_hasNumber_1 (by decide) (fun hc => ?_) (fun hc => ?_)
  · have h := h.1 hc
    refine lv_iconst (v := (0)) hx hb dX5_hasNumber_17 (by decide) ?_
    exact W.zret (v := (0 : Int32)) hx hb hr nar0 (fun t ht hW => ⟨(0 : Int32), rfl, ⟨h, nar0⟩, ht⟩) (fun q hq => absurd hq List.not_mem_nil) dX5_hasNumber_18
  · have h := h.2 hc
    refine lv_iload_n hx hb dX5_hasNumber_4 rfl (lv_at hl 1 rfl) ?_
    refine lv_aload_n hx hb dX5_hasNumber_5 rfl (lv_at hl 0 rfl) ?_
    refine va_get (D := D) (ci := 4) (v := .ref (a 1)) (C := RX5) (T := TX5) (N := 3) hx hb hts hi_X5_hasNumber_X5 hown hK.1 hP 0 rfl rfl 1 (by decide) (hts _ k_X5_hasNumber_1) (fun _ h9 => h9) rfl dX5_hasNumber_6 ?_
    refine x_alen (v := nI ns) hx hb hK hP 1 rfl rfl dX5_hasNumber_9 ?_
    refine lv_icmp_ge (tgt := 17) hx hb dX5_hasNumber_10 (by decide) (fun hc => ?_) (fun hc => ?_)
    · have h := h.1 hc
      refine lv_iconst (v := (0)) hx hb dX5_hasNumber_17 (by decide) ?_
      exact W.zret (v := (0 : Int32)) hx hb hr nar0 (fun t ht hW => ⟨(0 : Int32), rfl, ⟨h, nar0⟩, ht⟩) (fun q hq => absurd hq List.not_mem_nil) dX5_hasNumber_18
    · have h := h.2 hc
      refine lv_iconst (v := (1)) hx hb dX5_hasNumber_13 (by decide) ?_
      refine lv_goto (tgt := 18) hx hb dX5_hasNumber_14 (by decide) ?_
      exact W.zret (v := (1 : Int32)) hx hb hr nar1 (fun t ht hW => ⟨(1 : Int32), rfl, ⟨h, nar1⟩, ht⟩) (fun q hq => absurd hq List.not_mem_nil) dX5_hasNumber_18

-- IronedQuarrels$Shelf.makeAnew(III)V
def wp_X5_makeAnew (ns : Nat) (nc : Nat) (width : Int32) (sizes : Nat → Int32) (cells : Nat → Int32) (r : Int32) (n : Int32) (v : Int32) (post : (Nat → Int32) → (Nat → Int32) → Prop) : Prop :=
  vp_in r ns ∧ wp_J7_fill_fda19 nc cells (r * width) ((r * width) + n) v (fun cells_1 => post (upd sizes (r.toNatClampNeg) n) cells_1)
def rm_X5_makeAnew : Room := { frames := 2, cells := 0, slots := 0, locals := 46 }
theorem k_X5_makeAnew_1 : Cond.fieldLink RX5 15 "IronedQuarrels$Shelf" "sizes" "[I" ∈ wsX5_makeAnew := List.mem_of_getElem? (i := 1) (by decide +kernel)
theorem k_X5_makeAnew_2 : Cond.fieldLink RX5 19 "IronedQuarrels$Shelf" "cells" "[I" ∈ wsX5_makeAnew := List.mem_of_getElem? (i := 2) (by decide +kernel)
theorem k_X5_makeAnew_3 : Cond.fieldLink RX5 9 "IronedQuarrels$Shelf" "width" "I" ∈ wsX5_makeAnew := List.mem_of_getElem? (i := 3) (by decide +kernel)
theorem hi_X5_makeAnew_X5 : ∀ w ∈ wsX50, w ∈ wsX5_makeAnew := fun w h => List.mem_cons_of_mem _ (List.mem_append_right _ h)
set_option maxHeartbeats 4000000 in
set_option maxRecDepth 100000 in
theorem c_X5_makeAnew (l : Launch) (D : va_G) (ca : Nat → ClassId) (a : Nat → Nat) (ns : Nat) (nc : Nat) (width : Int32) (sizes : Nat → Int32) (cells : Nat → Int32) (r : Int32) (n : Int32) (v : Int32) (post : (Nat → Int32) → (Nat → Int32) → Prop) (hd : va_D (fun _ => True) (W_X5 ca a ns nc width sizes cells)) (h : wp_X5_makeAnew ns nc width sizes cells r n v post) : Met l yX5_makeAnew wsX5_makeAnew rm_X5_makeAnew (PcX D ca [.ref (a 0), .int r, .int n, .int v] (W_X5 ca a ns nc width sizes cells)) (wrV (S := (Nat → Int32) × (Nat → Int32)) D (W_X5 ca a ns nc width sizes cells) (fun u => W_X5 ca a ns nc width u.1 u.2) (fun u => post u.1 u.2)) 0 0 (adr (W_X5 ca a ns nc width sizes cells)) := by
  refine Met.ofW (cc := cX5_makeAnew) (maxL := 4) (ret := none) (by decide) rfl ?_
  intro zp ze zs zm za zb zt zc z1 B hml hv
  obtain ⟨rfl, hP, hK⟩ := hv
  have hx := B.exec
  have hb := B.bytes
  have hr := B.returns
  have hts := atoms_spec (ws := wsX5_makeAnew) B.pre
  have hown : zs.vm.findClass RX5 = some zm.cls := findClass_of_methodNamed B.named
  have hlocks := B.notSynchronized
  have hD : va_D (adr (W_X5 ca a ns nc width sizes cells)) (W_X5 ca a ns nc width sizes cells) := hd.adr
  have hS : va_S (adr (W_X5 ca a ns nc width sizes cells)) zs.heap zs.heap [] := va_S.rf
  have hl := lv_entry ([.ref (a 0), .int r, .int n, .int v]) (n := 4) (Nat.le_of_ble_eq_true rfl)
  rw [lg_entry_eq]
  generalize (lg_sl ([.ref (a 0), .int r, .int n, .int v]) ++ List.replicate (4 - (lg_sl ([.ref (a 0), .int r, .int n, .int v])).length) Slot.unset).toArray = ls at hl ⊢
  replace hl : lv_has ls 4 [(0, .ref (a 0)), (1, .int r), (2, .int n), (3, .int v)] := hl
  show W zp l ze rm_X5_makeAnew zs zm ([.ref (a 0), .int r, .int n, .int v] : List Value).toArray zb zt zc zs.heap [] 0 0 (MQ zb (wrV (S := (Nat → Int32) × (Nat → Int32)) D (W_X5 ca a ns nc width sizes cells) (fun u => W_X5 ca a ns nc width u.1 u.2) (fun u => post u.1 u.2)) ([.ref (a 0), .int r, .int n, .int v] : List Value).toArray zs 0 0 (adr (W_X5 ca a ns nc width sizes cells))) (F0 zm 0 ls [])
  unfold wp_X5_makeAnew at h
  refine lv_aload_n hx hb dX5_makeAnew_0 rfl (lv_at hl 0 rfl) ?_
  refine va_get (D := D) (ci := 4) (v := .ref (a 1)) (C := RX5) (T := TX5) (N := 3) hx hb hts hi_X5_makeAnew_X5 hown hK.1 hP 0 rfl rfl 1 (by decide) (hts _ k_X5_makeAnew_1) (fun _ h9 => h9) rfl dX5_makeAnew_1 ?_
  refine lv_iload_n hx hb dX5_makeAnew_4 rfl (lv_at hl 1 rfl) ?_
  refine lv_iload_n hx hb dX5_makeAnew_5 rfl (lv_at hl 2 rfl) ?_
  obtain ⟨hi, h⟩ := h
  refine x_iast (ws' := W_X5 ca a ns nc width (upd sizes (r.toNatClampNeg) n) cells) hx hb hK hP hD hS 1 rfl hi (k := (r.toNatClampNeg)) rfl rfl dX5_makeAnew_6 (fun H locs hP hD hS => ?_)
  refine lv_aload_n hx hb dX5_makeAnew_7 rfl (lv_at hl 0 rfl) ?_
  refine va_get (D := D) (ci := 4) (v := .ref (a 2)) (C := RX5) (T := TX5) (N := 3) hx hb hts hi_X5_makeAnew_X5 hown hK.1 hP 0 rfl rfl 2 (by decide) (hts _ k_X5_makeAnew_2) (fun _ h9 => h9) rfl dX5_makeAnew_8 ?_
  refine lv_iload_n hx hb dX5_makeAnew_11 rfl (lv_at hl 1 rfl) ?_
  refine lv_aload_n hx hb dX5_makeAnew_12 rfl (lv_at hl 0 rfl) ?_
  refine va_get (D := D) (ci := 4) (v := .int width) (C := RX5) (T := TX5) (N := 3) hx hb hts hi_X5_makeAnew_X5 hown hK.1 hP 0 rfl rfl 0 (by decide) (hts _ k_X5_makeAnew_3) (fun _ h9 => h9) rfl dX5_makeAnew_13 ?_
  refine lv_imul hx hb dX5_makeAnew_16 ?_
  refine lv_iload_n hx hb dX5_makeAnew_17 rfl (lv_at hl 1 rfl) ?_
  refine lv_aload_n hx hb dX5_makeAnew_18 rfl (lv_at hl 0 rfl) ?_
  refine va_get (D := D) (ci := 4) (v := .int width) (C := RX5) (T := TX5) (N := 3) hx hb hts hi_X5_makeAnew_X5 hown hK.1 hP 0 rfl rfl 0 (by decide) (hts _ k_X5_makeAnew_3) (fun _ h9 => h9) rfl dX5_makeAnew_19 ?_
  refine lv_imul hx hb dX5_makeAnew_22 ?_
  refine lv_iload_n hx hb dX5_makeAnew_23 rfl (lv_at hl 2 rfl) ?_
  refine lv_iadd hx hb dX5_makeAnew_24 ?_
  refine lv_iload_n hx hb dX5_makeAnew_25 rfl (lv_at hl 3 rfl) ?_
  refine wr_callv (ws1 := fun u => W_X5 ca a ns nc width (upd sizes (r.toNatClampNeg) n) u) (wr := ([0, 1] : List Nat).filterMap (fun i => (W_X5 ca a ns nc width (upd sizes (r.toNatClampNeg) n) cells : va_W)[i]?)) (n := 3) (va_runS (As := [.ref (a 2), .int (r * width), .int ((r * width) + n), .int v]) (rest := []) ⟨hx, hb, hml, hown, hts⟩ (c_J7_fill_fda19 l D ca (a 2) nc cells (r * width) ((r * width) + n) v _ (hD.subM [2] (by decide) rfl) h) (va_cwS 4 hts gX5_makeAnew_J7_fill_fda19 rfl rfl rfl (by decide +kernel) ⟨Nat.le_of_ble_eq_true rfl, Nat.le_of_ble_eq_true rfl⟩) (PcX.preS hK (hP.subM [2] rfl)) rfl rfl hl.1 rfl (lv_room (Nat.le_of_ble_eq_true rfl)) dX5_makeAnew_26 ⟨Nat.le_of_ble_eq_true rfl, Nat.le_of_ble_eq_true rfl⟩) hP hD hS [2] [0, 1] rfl (fun _ => rfl) rfl (fun _ => rfl) (fun _ => rfl) (fun _ => rfl) (by decide +kernel) (by decide +kernel) (fun u H locs h hP hD hS => ?_)
  obtain ⟨cells_1, rfl⟩ : ∃ z, z = u := ⟨u, rfl⟩
  have hP : va_P D vwCl (W_X5 ca a ns nc width (upd sizes (r.toNatClampNeg) n) cells_1) H := hP
  have hD : va_D _ (W_X5 ca a ns nc width (upd sizes (r.toNatClampNeg) n) cells_1) := hD
  try dsimp only at h
  exact W.vret hx hb hr (fun t ht hW => ⟨⟨(upd sizes (r.toNatClampNeg) n, cells_1), rfl, h, by rw [ht]; exact hP⟩, hS.F ht⟩) hS.2.2 dX5_makeAnew_29

-- IronedQuarrels$Tally.note(I)I
def wp_X6_note (often : Nat → Int32) (f : Int32) (post : Int32 → (Nat → Int32) → (Int32) → Prop) : Prop :=
  vp_in f 6 ∧ vp_in f 6 ∧ post (-3 : Int32) (upd often (f.toNatClampNeg) ((often f.toNatClampNeg) + (1 : Int32))) f
def rm_X6_note : Room := { frames := 0, cells := 0, slots := 0, locals := 0 }
theorem k_X6_note_1 : Cond.fieldLink RX6 15 "IronedQuarrels$Tally" "latest" "I" ∈ wsX6_note := List.mem_of_getElem? (i := 1) (by decide +kernel)
theorem k_X6_note_2 : Cond.fieldLink RX6 9 "IronedQuarrels$Tally" "often" "[I" ∈ wsX6_note := List.mem_of_getElem? (i := 2) (by decide +kernel)
theorem hi_X6_note_X6 : ∀ w ∈ wsX60, w ∈ wsX6_note := fun w h => List.mem_cons_of_mem _ (List.mem_append_right _ h)
set_option maxHeartbeats 4000000 in
set_option maxRecDepth 100000 in
theorem c_X6_note (l : Launch) (D : va_G) (ca : Nat → ClassId) (a : Nat → Nat) (often : Nat → Int32) (latest : Int32) (f : Int32) (post : Int32 → (Nat → Int32) → (Int32) → Prop) (hd : va_D (fun _ => True) (W_X6 ca a often latest)) (h : wp_X6_note often f post) : Met l yX6_note wsX6_note rm_X6_note (PcX D ca [.ref (a 0), .int f] (W_X6 ca a often latest)) (wrI (S := (Nat → Int32) × (Int32)) D (W_X6 ca a often latest) (fun u => W_X6 ca a u.1 u.2) (fun r u => post r u.1 u.2)) 0 0 (adr (W_X6 ca a often latest)) := by
  refine Met.ofW (cc := cX6_note) (maxL := 2) (ret := (some .int)) (by decide) rfl ?_
  intro zp ze zs zm za zb zt zc z1 B hml hv
  obtain ⟨rfl, hP, hK⟩ := hv
  have hx := B.exec
  have hb := B.bytes
  have hr := B.returns
  have hts := atoms_spec (ws := wsX6_note) B.pre
  have hown : zs.vm.findClass RX6 = some zm.cls := findClass_of_methodNamed B.named
  have hlocks := B.notSynchronized
  have hD : va_D (adr (W_X6 ca a often latest)) (W_X6 ca a often latest) := hd.adr
  have hS : va_S (adr (W_X6 ca a often latest)) zs.heap zs.heap [] := va_S.rf
  have hl := lv_entry ([.ref (a 0), .int f]) (n := 2) (Nat.le_of_ble_eq_true rfl)
  rw [lg_entry_eq]
  generalize (lg_sl ([.ref (a 0), .int f]) ++ List.replicate (2 - (lg_sl ([.ref (a 0), .int f])).length) Slot.unset).toArray = ls at hl ⊢
  replace hl : lv_has ls 2 [(0, .ref (a 0)), (1, .int f)] := hl
  show W zp l ze rm_X6_note zs zm ([.ref (a 0), .int f] : List Value).toArray zb zt zc zs.heap [] 0 0 (MQ zb (wrI (S := (Nat → Int32) × (Int32)) D (W_X6 ca a often latest) (fun u => W_X6 ca a u.1 u.2) (fun r u => post r u.1 u.2)) ([.ref (a 0), .int f] : List Value).toArray zs 0 0 (adr (W_X6 ca a often latest))) (F0 zm 0 ls [])
  unfold wp_X6_note at h
  refine lv_aload_n hx hb dX6_note_0 rfl (lv_at hl 0 rfl) ?_
  refine lv_iload_n hx hb dX6_note_1 rfl (lv_at hl 1 rfl) ?_
  refine va_put (D := D) (ci := 5) (v := .int f) (ty := .int) (C := RX6) (T := TX6) (N := 2) hx hb hts hi_X6_note_X6 tyX6 tyX6_ok nmX6 hown hK.1 hP hD hS 0 rfl rfl 1 (by decide) (hts _ k_X6_note_1) (fun _ h9 => h9) rfl (by decide +kernel) rfl rfl (Nat.le_of_ble_eq_true rfl) dX6_note_2 (fun H locs hP hD hS => ?_)
  have hP : va_P D vwCl (W_X6 ca a often f) H := hP
  have hD : va_D _ (W_X6 ca a often f) := hD
  refine lv_aload_n hx hb dX6_note_5 rfl (lv_at hl 0 rfl) ?_
  refine va_get (D := D) (ci := 5) (v := .ref (a 1)) (C := RX6) (T := TX6) (N := 2) hx hb hts hi_X6_note_X6 hown hK.1 hP 0 rfl rfl 0 (by decide) (hts _ k_X6_note_2) (fun _ h9 => h9) rfl dX6_note_6 ?_
  refine lv_iload_n hx hb dX6_note_9 rfl (lv_at hl 1 rfl) ?_
  refine lv_dup2_11 hx hb dX6_note_10 rfl rfl ?_
  obtain ⟨hi, h⟩ := h
  refine x_iald (v := often f.toNatClampNeg) hx hb hK hP 1 rfl hi rfl dX6_note_11 ?_
  refine lv_iconst (v := (1)) hx hb dX6_note_12 (by decide) ?_
  refine lv_iadd hx hb dX6_note_13 ?_
  obtain ⟨hi, h⟩ := h
  refine x_iast (ws' := W_X6 ca a (upd often (f.toNatClampNeg) ((often f.toNatClampNeg) + (1 : Int32))) f) hx hb hK hP hD hS 1 rfl hi (k := (f.toNatClampNeg)) rfl rfl dX6_note_14 (fun H locs hP hD hS => ?_)
  refine lv_bipush (v := (-3)) hx hb dX6_note_15 (by decide) ?_
  exact W.iret (v := (-3 : Int32)) hx hb hr (fun t ht hW => ⟨⟨(-3 : Int32), (upd often (f.toNatClampNeg) ((often f.toNatClampNeg) + (1 : Int32)), f), rfl, h, by rw [ht]; exact hP⟩, hS.F ht⟩) hS.2.2 dX6_note_17

-- IronedQuarrels$Shelf.isThere(I)Z
def wp_X5_isThere (ns : Nat) (sizes : Nat → Int32) (r : Int32) (post : Int32 → Prop) : Prop :=
  vp_in r ns ∧ ((sizes r.toNatClampNeg) = (-1 : Int32) → (post (0 : Int32))) ∧ (¬ (sizes r.toNatClampNeg) = (-1 : Int32) → (post (1 : Int32)))
def rm_X5_isThere : Room := { frames := 0, cells := 0, slots := 0, locals := 0 }
theorem k_X5_isThere_1 : Cond.fieldLink RX5 15 "IronedQuarrels$Shelf" "sizes" "[I" ∈ wsX5_isThere := List.mem_of_getElem? (i := 1) (by decide +kernel)
theorem hi_X5_isThere_X5 : ∀ w ∈ wsX50, w ∈ wsX5_isThere := fun w h => List.mem_cons_of_mem _ (List.mem_append_right _ h)
set_option maxHeartbeats 4000000 in
set_option maxRecDepth 100000 in
theorem c_X5_isThere (l : Launch) (D : va_G) (ca : Nat → ClassId) (a : Nat → Nat) (ns : Nat) (nc : Nat) (width : Int32) (sizes : Nat → Int32) (cells : Nat → Int32) (r : Int32) (post : Int32 → Prop) (h : wp_X5_isThere ns sizes r post) : Met l yX5_isThere wsX5_isThere rm_X5_isThere (PcX D ca [.ref (a 0), .int r] (W_X5 ca a ns nc width sizes cells)) (rdZ post) 0 0 (fun _ => False) := by
  refine Met.ofW (cc := cX5_isThere) (maxL := 2) (ret := (some .boolean)) (by decide) rfl ?_
  intro zp ze zs zm za zb zt zc z1 B hml hv
  obtain ⟨rfl, hP, hK⟩ := hv
  have hx := B.exec
  have hb := B.bytes
  have hr := B.returns
  have hts := atoms_spec (ws := wsX5_isThere) B.pre
  have hown : zs.vm.findClass RX5 = some zm.cls := findClass_of_methodNamed B.named
  have hlocks := B.notSynchronized
  have hl := lv_entry ([.ref (a 0), .int r]) (n := 2) (Nat.le_of_ble_eq_true rfl)
  rw [lg_entry_eq]
  generalize (lg_sl ([.ref (a 0), .int r]) ++ List.replicate (2 - (lg_sl ([.ref (a 0), .int r])).length) Slot.unset).toArray = ls at hl ⊢
  replace hl : lv_has ls 2 [(0, .ref (a 0)), (1, .int r)] := hl
  show W zp l ze rm_X5_isThere zs zm ([.ref (a 0), .int r] : List Value).toArray zb zt zc zs.heap [] 0 0 (MQ zb (rdZ post) ([.ref (a 0), .int r] : List Value).toArray zs 0 0 (fun _ => False)) (F0 zm 0 ls [])
  unfold wp_X5_isThere at h
  refine lv_aload_n hx hb dX5_isThere_0 rfl (lv_at hl 0 rfl) ?_
  refine va_get (D := D) (ci := 4) (v := .ref (a 1)) (C := RX5) (T := TX5) (N := 3) hx hb hts hi_X5_isThere_X5 hown hK.1 hP 0 rfl rfl 1 (by decide) (hts _ k_X5_isThere_1) (fun _ h9 => h9) rfl dX5_isThere_1 ?_
  refine lv_iload_n hx hb dX5_isThere_4 rfl (lv_at hl 1 rfl) ?_
  obtain ⟨hi, h⟩ := h
  refine x_iald (v := sizes r.toNatClampNeg) hx hb hK hP 1 rfl hi rfl dX5_isThere_5 ?_
  refine lv_iconst (v := (-1)) hx hb dX5_isThere_6 (by decide) ?_
  refine lv_icmp_eq (tgt := 14) hx hb dX5_isThere_7 (by decide) (fun hc => ?_) (fun hc => ?_)
  · have h := h.1 hc
    refine lv_iconst (v := (0)) hx hb dX5_isThere_14 (by decide) ?_
    exact W.zret (v := (0 : Int32)) hx hb hr nar0 (fun t ht hW => ⟨(0 : Int32), rfl, ⟨h, nar0⟩, ht⟩) (fun q hq => absurd hq List.not_mem_nil) dX5_isThere_15
  · have h := h.2 hc
    refine lv_iconst (v := (1)) hx hb dX5_isThere_10 (by decide) ?_
    refine lv_goto (tgt := 15) hx hb dX5_isThere_11 (by decide) ?_
    exact W.zret (v := (1 : Int32)) hx hb hr nar1 (fun t ht hW => ⟨(1 : Int32), rfl, ⟨h, nar1⟩, ht⟩) (fun q hq => absurd hq List.not_mem_nil) dX5_isThere_15

-- IronedQuarrels$Shelf.hasPlace(II)Z
def wp_X5_hasPlace (ns : Nat) (sizes : Nat → Int32) (r : Int32) (i : Int32) (post : Int32 → Prop) : Prop :=
  (i < 0 → (post (0 : Int32))) ∧ (¬ i < 0 → (vp_in r ns ∧ ((sizes r.toNatClampNeg) ≤ i → (post (0 : Int32))) ∧ (¬ (sizes r.toNatClampNeg) ≤ i → (post (1 : Int32)))))
def rm_X5_hasPlace : Room := { frames := 0, cells := 0, slots := 0, locals := 0 }
theorem k_X5_hasPlace_1 : Cond.fieldLink RX5 15 "IronedQuarrels$Shelf" "sizes" "[I" ∈ wsX5_hasPlace := List.mem_of_getElem? (i := 1) (by decide +kernel)
theorem hi_X5_hasPlace_X5 : ∀ w ∈ wsX50, w ∈ wsX5_hasPlace := fun w h => List.mem_cons_of_mem _ (List.mem_append_right _ h)
set_option maxHeartbeats 4000000 in
set_option maxRecDepth 100000 in
theorem c_X5_hasPlace (l : Launch) (D : va_G) (ca : Nat → ClassId) (a : Nat → Nat) (ns : Nat) (nc : Nat) (width : Int32) (sizes : Nat → Int32) (cells : Nat → Int32) (r : Int32) (i : Int32) (post : Int32 → Prop) (h : wp_X5_hasPlace ns sizes r i post) : Met l yX5_hasPlace wsX5_hasPlace rm_X5_hasPlace (PcX D ca [.ref (a 0), .int r, .int i] (W_X5 ca a ns nc width sizes cells)) (rdZ post) 0 0 (fun _ => False) := by
  refine Met.ofW (cc := cX5_hasPlace) (maxL := 3) (ret := (some .boolean)) (by decide) rfl ?_
  intro zp ze zs zm za zb zt zc z1 B hml hv
  obtain ⟨rfl, hP, hK⟩ := hv
  have hx := B.exec
  have hb := B.bytes
  have hr := B.returns
  have hts := atoms_spec (ws := wsX5_hasPlace) B.pre
  have hown : zs.vm.findClass RX5 = some zm.cls := findClass_of_methodNamed B.named
  have hlocks := B.notSynchronized
  have hl := lv_entry ([.ref (a 0), .int r, .int i]) (n := 3) (Nat.le_of_ble_eq_true rfl)
  rw [lg_entry_eq]
  generalize (lg_sl ([.ref (a 0), .int r, .int i]) ++ List.replicate (3 - (lg_sl ([.ref (a 0), .int r, .int i])).length) Slot.unset).toArray = ls at hl ⊢
  replace hl : lv_has ls 3 [(0, .ref (a 0)), (1, .int r), (2, .int i)] := hl
  show W zp l ze rm_X5_hasPlace zs zm ([.ref (a 0), .int r, .int i] : List Value).toArray zb zt zc zs.heap [] 0 0 (MQ zb (rdZ post) ([.ref (a 0), .int r, .int i] : List Value).toArray zs 0 0 (fun _ => False)) (F0 zm 0 ls [])
  unfold wp_X5_hasPlace at h
  refine lv_iload_n hx hb dX5_hasPlace_0 rfl (lv_at hl 2 rfl) ?_
  refine lv_if_lt (tgt := 18) hx hb dX5_hasPlace_1 (by decide) (fun hc => ?_) (fun hc => ?_)
  · have h := h.1 hc
    refine lv_iconst (v := (0)) hx hb dX5_hasPlace_18 (by decide) ?_
    exact W.zret (v := (0 : Int32)) hx hb hr nar0 (fun t ht hW => ⟨(0 : Int32), rfl, ⟨h, nar0⟩, ht⟩) (fun q hq => absurd hq List.not_mem_nil) dX5_hasPlace_19
  · have h := h.2 hc
    refine lv_iload_n hx hb dX5_hasPlace_4 rfl (lv_at hl 2 rfl) ?_
    refine lv_aload_n hx hb dX5_hasPlace_5 rfl (lv_at hl 0 rfl) ?_
    refine va_get (D := D) (ci := 4) (v := .ref (a 1)) (C := RX5) (T := TX5) (N := 3) hx hb hts hi_X5_hasPlace_X5 hown hK.1 hP 0 rfl rfl 1 (by decide) (hts _ k_X5_hasPlace_1) (fun _ h9 => h9) rfl dX5_hasPlace_6 ?_
    refine lv_iload_n hx hb dX5_hasPlace_9 rfl (lv_at hl 1 rfl) ?_
    obtain ⟨hi, h⟩ := h
    refine x_iald (v := sizes r.toNatClampNeg) hx hb hK hP 1 rfl hi rfl dX5_hasPlace_10 ?_
    refine lv_icmp_ge (tgt := 18) hx hb dX5_hasPlace_11 (by decide) (fun hc => ?_) (fun hc => ?_)
    · have h := h.1 hc
      refine lv_iconst (v := (0)) hx hb dX5_hasPlace_18 (by decide) ?_
      exact W.zret (v := (0 : Int32)) hx hb hr nar0 (fun t ht hW => ⟨(0 : Int32), rfl, ⟨h, nar0⟩, ht⟩) (fun q hq => absurd hq List.not_mem_nil) dX5_hasPlace_19
    · have h := h.2 hc
      refine lv_iconst (v := (1)) hx hb dX5_hasPlace_14 (by decide) ?_
      refine lv_goto (tgt := 19) hx hb dX5_hasPlace_15 (by decide) ?_
      exact W.zret (v := (1 : Int32)) hx hb hr nar1 (fun t ht hW => ⟨(1 : Int32), rfl, ⟨h, nar1⟩, ht⟩) (fun q hq => absurd hq List.not_mem_nil) dX5_hasPlace_19

-- IronedQuarrels$Shelf.cell(II)I
def wp_X5_cell (nc : Nat) (width : Int32) (cells : Nat → Int32) (r : Int32) (i : Int32) (post : Int32 → Prop) : Prop :=
  vp_in ((r * width) + i) nc ∧ post (cells ((r * width) + i).toNatClampNeg)
def rm_X5_cell : Room := { frames := 0, cells := 0, slots := 0, locals := 0 }
theorem k_X5_cell_1 : Cond.fieldLink RX5 19 "IronedQuarrels$Shelf" "cells" "[I" ∈ wsX5_cell := List.mem_of_getElem? (i := 1) (by decide +kernel)
theorem k_X5_cell_2 : Cond.fieldLink RX5 9 "IronedQuarrels$Shelf" "width" "I" ∈ wsX5_cell := List.mem_of_getElem? (i := 2) (by decide +kernel)
theorem hi_X5_cell_X5 : ∀ w ∈ wsX50, w ∈ wsX5_cell := fun w h => List.mem_cons_of_mem _ (List.mem_append_right _ h)
set_option maxHeartbeats 4000000 in
set_option maxRecDepth 100000 in
theorem c_X5_cell (l : Launch) (D : va_G) (ca : Nat → ClassId) (a : Nat → Nat) (ns : Nat) (nc : Nat) (width : Int32) (sizes : Nat → Int32) (cells : Nat → Int32) (r : Int32) (i : Int32) (post : Int32 → Prop) (h : wp_X5_cell nc width cells r i post) : Met l yX5_cell wsX5_cell rm_X5_cell (PcX D ca [.ref (a 0), .int r, .int i] (W_X5 ca a ns nc width sizes cells)) (rdI post) 0 0 (fun _ => False) := by
  refine Met.ofW (cc := cX5_cell) (maxL := 3) (ret := (some .int)) (by decide) rfl ?_
  intro zp ze zs zm za zb zt zc z1 B hml hv
  obtain ⟨rfl, hP, hK⟩ := hv
  have hx := B.exec
  have hb := B.bytes
  have hr := B.returns
  have hts := atoms_spec (ws := wsX5_cell) B.pre
  have hown : zs.vm.findClass RX5 = some zm.cls := findClass_of_methodNamed B.named
  have hlocks := B.notSynchronized
  have hl := lv_entry ([.ref (a 0), .int r, .int i]) (n := 3) (Nat.le_of_ble_eq_true rfl)
  rw [lg_entry_eq]
  generalize (lg_sl ([.ref (a 0), .int r, .int i]) ++ List.replicate (3 - (lg_sl ([.ref (a 0), .int r, .int i])).length) Slot.unset).toArray = ls at hl ⊢
  replace hl : lv_has ls 3 [(0, .ref (a 0)), (1, .int r), (2, .int i)] := hl
  show W zp l ze rm_X5_cell zs zm ([.ref (a 0), .int r, .int i] : List Value).toArray zb zt zc zs.heap [] 0 0 (MQ zb (rdI post) ([.ref (a 0), .int r, .int i] : List Value).toArray zs 0 0 (fun _ => False)) (F0 zm 0 ls [])
  unfold wp_X5_cell at h
  refine lv_aload_n hx hb dX5_cell_0 rfl (lv_at hl 0 rfl) ?_
  refine va_get (D := D) (ci := 4) (v := .ref (a 2)) (C := RX5) (T := TX5) (N := 3) hx hb hts hi_X5_cell_X5 hown hK.1 hP 0 rfl rfl 2 (by decide) (hts _ k_X5_cell_1) (fun _ h9 => h9) rfl dX5_cell_1 ?_
  refine lv_iload_n hx hb dX5_cell_4 rfl (lv_at hl 1 rfl) ?_
  refine lv_aload_n hx hb dX5_cell_5 rfl (lv_at hl 0 rfl) ?_
  refine va_get (D := D) (ci := 4) (v := .int width) (C := RX5) (T := TX5) (N := 3) hx hb hts hi_X5_cell_X5 hown hK.1 hP 0 rfl rfl 0 (by decide) (hts _ k_X5_cell_2) (fun _ h9 => h9) rfl dX5_cell_6 ?_
  refine lv_imul hx hb dX5_cell_9 ?_
  refine lv_iload_n hx hb dX5_cell_10 rfl (lv_at hl 2 rfl) ?_
  refine lv_iadd hx hb dX5_cell_11 ?_
  obtain ⟨hi, h⟩ := h
  refine x_iald (v := cells ((r * width) + i).toNatClampNeg) hx hb hK hP 2 rfl hi rfl dX5_cell_12 ?_
  exact W.iret (v := cells ((r * width) + i).toNatClampNeg) hx hb hr (fun t ht hW => ⟨cells ((r * width) + i).toNatClampNeg, rfl, h, ht⟩) (fun q hq => absurd hq List.not_mem_nil) dX5_cell_13

-- IronedQuarrels$Shelf.setCell(III)V
def wp_X5_setCell (nc : Nat) (width : Int32) (cells : Nat → Int32) (r : Int32) (i : Int32) (v : Int32) (post : (Nat → Int32) → Prop) : Prop :=
  vp_in ((r * width) + i) nc ∧ post (upd cells (((r * width) + i).toNatClampNeg) v)
def rm_X5_setCell : Room := { frames := 0, cells := 0, slots := 0, locals := 0 }
theorem k_X5_setCell_1 : Cond.fieldLink RX5 19 "IronedQuarrels$Shelf" "cells" "[I" ∈ wsX5_setCell := List.mem_of_getElem? (i := 1) (by decide +kernel)
theorem k_X5_setCell_2 : Cond.fieldLink RX5 9 "IronedQuarrels$Shelf" "width" "I" ∈ wsX5_setCell := List.mem_of_getElem? (i := 2) (by decide +kernel)
theorem hi_X5_setCell_X5 : ∀ w ∈ wsX50, w ∈ wsX5_setCell := fun w h => List.mem_cons_of_mem _ (List.mem_append_right _ h)
set_option maxHeartbeats 4000000 in
set_option maxRecDepth 100000 in
theorem c_X5_setCell (l : Launch) (D : va_G) (ca : Nat → ClassId) (a : Nat → Nat) (ns : Nat) (nc : Nat) (width : Int32) (sizes : Nat → Int32) (cells : Nat → Int32) (r : Int32) (i : Int32) (v : Int32) (post : (Nat → Int32) → Prop) (hd : va_D (fun _ => True) (W_X5 ca a ns nc width sizes cells)) (h : wp_X5_setCell nc width cells r i v post) : Met l yX5_setCell wsX5_setCell rm_X5_setCell (PcX D ca [.ref (a 0), .int r, .int i, .int v] (W_X5 ca a ns nc width sizes cells)) (wrV (S := (Nat → Int32)) D (W_X5 ca a ns nc width sizes cells) (fun u => W_X5 ca a ns nc width sizes u) (fun u => post u)) 0 0 (adr (W_X5 ca a ns nc width sizes cells)) := by
  refine Met.ofW (cc := cX5_setCell) (maxL := 4) (ret := none) (by decide) rfl ?_
  intro zp ze zs zm za zb zt zc z1 B hml hv
  obtain ⟨rfl, hP, hK⟩ := hv
  have hx := B.exec
  have hb := B.bytes
  have hr := B.returns
  have hts := atoms_spec (ws := wsX5_setCell) B.pre
  have hown : zs.vm.findClass RX5 = some zm.cls := findClass_of_methodNamed B.named
  have hlocks := B.notSynchronized
  have hD : va_D (adr (W_X5 ca a ns nc width sizes cells)) (W_X5 ca a ns nc width sizes cells) := hd.adr
  have hS : va_S (adr (W_X5 ca a ns nc width sizes cells)) zs.heap zs.heap [] := va_S.rf
  have hl := lv_entry ([.ref (a 0), .int r, .int i, .int v]) (n := 4) (Nat.le_of_ble_eq_true rfl)
  rw [lg_entry_eq]
  generalize (lg_sl ([.ref (a 0), .int r, .int i, .int v]) ++ List.replicate (4 - (lg_sl ([.ref (a 0), .int r, .int i, .int v])).length) Slot.unset).toArray = ls at hl ⊢
  replace hl : lv_has ls 4 [(0, .ref (a 0)), (1, .int r), (2, .int i), (3, .int v)] := hl
  show W zp l ze rm_X5_setCell zs zm ([.ref (a 0), .int r, .int i, .int v] : List Value).toArray zb zt zc zs.heap [] 0 0 (MQ zb (wrV (S := (Nat → Int32)) D (W_X5 ca a ns nc width sizes cells) (fun u => W_X5 ca a ns nc width sizes u) (fun u => post u)) ([.ref (a 0), .int r, .int i, .int v] : List Value).toArray zs 0 0 (adr (W_X5 ca a ns nc width sizes cells))) (F0 zm 0 ls [])
  unfold wp_X5_setCell at h
  refine lv_aload_n hx hb dX5_setCell_0 rfl (lv_at hl 0 rfl) ?_
  refine va_get (D := D) (ci := 4) (v := .ref (a 2)) (C := RX5) (T := TX5) (N := 3) hx hb hts hi_X5_setCell_X5 hown hK.1 hP 0 rfl rfl 2 (by decide) (hts _ k_X5_setCell_1) (fun _ h9 => h9) rfl dX5_setCell_1 ?_
  refine lv_iload_n hx hb dX5_setCell_4 rfl (lv_at hl 1 rfl) ?_
  refine lv_aload_n hx hb dX5_setCell_5 rfl (lv_at hl 0 rfl) ?_
  refine va_get (D := D) (ci := 4) (v := .int width) (C := RX5) (T := TX5) (N := 3) hx hb hts hi_X5_setCell_X5 hown hK.1 hP 0 rfl rfl 0 (by decide) (hts _ k_X5_setCell_2) (fun _ h9 => h9) rfl dX5_setCell_6 ?_
  refine lv_imul hx hb dX5_setCell_9 ?_
  refine lv_iload_n hx hb dX5_setCell_10 rfl (lv_at hl 2 rfl) ?_
  refine lv_iadd hx hb dX5_setCell_11 ?_
  refine lv_iload_n hx hb dX5_setCell_12 rfl (lv_at hl 3 rfl) ?_
  obtain ⟨hi, h⟩ := h
  refine x_iast (ws' := W_X5 ca a ns nc width sizes (upd cells (((r * width) + i).toNatClampNeg) v)) hx hb hK hP hD hS 2 rfl hi (k := (((r * width) + i).toNatClampNeg)) rfl rfl dX5_setCell_13 (fun H locs hP hD hS => ?_)
  exact W.vret hx hb hr (fun t ht hW => ⟨⟨(upd cells (((r * width) + i).toNatClampNeg) v), rfl, h, by rw [ht]; exact hP⟩, hS.F ht⟩) hS.2.2 dX5_setCell_14

-- IronedQuarrels$Shelf.drop(I)V
def wp_X5_drop (ns : Nat) (sizes : Nat → Int32) (r : Int32) (post : (Nat → Int32) → Prop) : Prop :=
  vp_in r ns ∧ post (upd sizes (r.toNatClampNeg) (-1 : Int32))
def rm_X5_drop : Room := { frames := 0, cells := 0, slots := 0, locals := 0 }
theorem k_X5_drop_1 : Cond.fieldLink RX5 15 "IronedQuarrels$Shelf" "sizes" "[I" ∈ wsX5_drop := List.mem_of_getElem? (i := 1) (by decide +kernel)
theorem hi_X5_drop_X5 : ∀ w ∈ wsX50, w ∈ wsX5_drop := fun w h => List.mem_cons_of_mem _ (List.mem_append_right _ h)
set_option maxHeartbeats 4000000 in
set_option maxRecDepth 100000 in
theorem c_X5_drop (l : Launch) (D : va_G) (ca : Nat → ClassId) (a : Nat → Nat) (ns : Nat) (nc : Nat) (width : Int32) (sizes : Nat → Int32) (cells : Nat → Int32) (r : Int32) (post : (Nat → Int32) → Prop) (hd : va_D (fun _ => True) (W_X5 ca a ns nc width sizes cells)) (h : wp_X5_drop ns sizes r post) : Met l yX5_drop wsX5_drop rm_X5_drop (PcX D ca [.ref (a 0), .int r] (W_X5 ca a ns nc width sizes cells)) (wrV (S := (Nat → Int32)) D (W_X5 ca a ns nc width sizes cells) (fun u => W_X5 ca a ns nc width u cells) (fun u => post u)) 0 0 (adr (W_X5 ca a ns nc width sizes cells)) := by
  refine Met.ofW (cc := cX5_drop) (maxL := 2) (ret := none) (by decide) rfl ?_
  intro zp ze zs zm za zb zt zc z1 B hml hv
  obtain ⟨rfl, hP, hK⟩ := hv
  have hx := B.exec
  have hb := B.bytes
  have hr := B.returns
  have hts := atoms_spec (ws := wsX5_drop) B.pre
  have hown : zs.vm.findClass RX5 = some zm.cls := findClass_of_methodNamed B.named
  have hlocks := B.notSynchronized
  have hD : va_D (adr (W_X5 ca a ns nc width sizes cells)) (W_X5 ca a ns nc width sizes cells) := hd.adr
  have hS : va_S (adr (W_X5 ca a ns nc width sizes cells)) zs.heap zs.heap [] := va_S.rf
  have hl := lv_entry ([.ref (a 0), .int r]) (n := 2) (Nat.le_of_ble_eq_true rfl)
  rw [lg_entry_eq]
  generalize (lg_sl ([.ref (a 0), .int r]) ++ List.replicate (2 - (lg_sl ([.ref (a 0), .int r])).length) Slot.unset).toArray = ls at hl ⊢
  replace hl : lv_has ls 2 [(0, .ref (a 0)), (1, .int r)] := hl
  show W zp l ze rm_X5_drop zs zm ([.ref (a 0), .int r] : List Value).toArray zb zt zc zs.heap [] 0 0 (MQ zb (wrV (S := (Nat → Int32)) D (W_X5 ca a ns nc width sizes cells) (fun u => W_X5 ca a ns nc width u cells) (fun u => post u)) ([.ref (a 0), .int r] : List Value).toArray zs 0 0 (adr (W_X5 ca a ns nc width sizes cells))) (F0 zm 0 ls [])
  unfold wp_X5_drop at h
  refine lv_aload_n hx hb dX5_drop_0 rfl (lv_at hl 0 rfl) ?_
  refine va_get (D := D) (ci := 4) (v := .ref (a 1)) (C := RX5) (T := TX5) (N := 3) hx hb hts hi_X5_drop_X5 hown hK.1 hP 0 rfl rfl 1 (by decide) (hts _ k_X5_drop_1) (fun _ h9 => h9) rfl dX5_drop_1 ?_
  refine lv_iload_n hx hb dX5_drop_4 rfl (lv_at hl 1 rfl) ?_
  refine lv_iconst (v := (-1)) hx hb dX5_drop_5 (by decide) ?_
  obtain ⟨hi, h⟩ := h
  refine x_iast (ws' := W_X5 ca a ns nc width (upd sizes (r.toNatClampNeg) (-1 : Int32)) cells) hx hb hK hP hD hS 1 rfl hi (k := (r.toNatClampNeg)) rfl rfl dX5_drop_6 (fun H locs hP hD hS => ?_)
  exact W.vret hx hb hr (fun t ht hW => ⟨⟨(upd sizes (r.toNatClampNeg) (-1 : Int32)), rfl, h, by rw [ht]; exact hP⟩, hS.F ht⟩) hS.2.2 dX5_drop_7

-- IronedQuarrels$Shelf.reaches(III)Z
def wp_X5_reaches (ns : Nat) (sizes : Nat → Int32) (r : Int32) (from_ : Int32) (n : Int32) (post : Int32 → Prop) : Prop :=
  (from_ < 0 → (post (0 : Int32))) ∧ (¬ from_ < 0 → (vp_in r ns ∧ ((sizes r.toNatClampNeg) < from_ → (post (0 : Int32))) ∧ (¬ (sizes r.toNatClampNeg) < from_ → (vp_in r ns ∧ (((sizes r.toNatClampNeg) - from_) < n → (post (0 : Int32))) ∧ (¬ ((sizes r.toNatClampNeg) - from_) < n → (post (1 : Int32)))))))
def rm_X5_reaches : Room := { frames := 0, cells := 0, slots := 0, locals := 0 }
theorem k_X5_reaches_1 : Cond.fieldLink RX5 15 "IronedQuarrels$Shelf" "sizes" "[I" ∈ wsX5_reaches := List.mem_of_getElem? (i := 1) (by decide +kernel)
theorem hi_X5_reaches_X5 : ∀ w ∈ wsX50, w ∈ wsX5_reaches := fun w h => List.mem_cons_of_mem _ (List.mem_append_right _ h)
set_option maxHeartbeats 4000000 in
set_option maxRecDepth 100000 in
theorem c_X5_reaches (l : Launch) (D : va_G) (ca : Nat → ClassId) (a : Nat → Nat) (ns : Nat) (nc : Nat) (width : Int32) (sizes : Nat → Int32) (cells : Nat → Int32) (r : Int32) (from_ : Int32) (n : Int32) (post : Int32 → Prop) (h : wp_X5_reaches ns sizes r from_ n post) : Met l yX5_reaches wsX5_reaches rm_X5_reaches (PcX D ca [.ref (a 0), .int r, .int from_, .int n] (W_X5 ca a ns nc width sizes cells)) (rdZ post) 0 0 (fun _ => False) := by
  refine Met.ofW (cc := cX5_reaches) (maxL := 4) (ret := (some .boolean)) (by decide) rfl ?_
  intro zp ze zs zm za zb zt zc z1 B hml hv
  obtain ⟨rfl, hP, hK⟩ := hv
  have hx := B.exec
  have hb := B.bytes
  have hr := B.returns
  have hts := atoms_spec (ws := wsX5_reaches) B.pre
  have hown : zs.vm.findClass RX5 = some zm.cls := findClass_of_methodNamed B.named
  have hlocks := B.notSynchronized
  have hl := lv_entry ([.ref (a 0), .int r, .int from_, .int n]) (n := 4) (Nat.le_of_ble_eq_true rfl)
  rw [lg_entry_eq]
  generalize (lg_sl ([.ref (a 0), .int r, .int from_, .int n]) ++ List.replicate (4 - (lg_sl ([.ref (a 0), .int r, .int from_, .int n])).length) Slot.unset).toArray = ls at hl ⊢
  replace hl : lv_has ls 4 [(0, .ref (a 0)), (1, .int r), (2, .int from_), (3, .int n)] := hl
  show W zp l ze rm_X5_reaches zs zm ([.ref (a 0), .int r, .int from_, .int n] : List Value).toArray zb zt zc zs.heap [] 0 0 (MQ zb (rdZ post) ([.ref (a 0), .int r, .int from_, .int n] : List Value).toArray zs 0 0 (fun _ => False)) (F0 zm 0 ls [])
  unfold wp_X5_reaches at h
  refine lv_iload_n hx hb dX5_reaches_0 rfl (lv_at hl 2 rfl) ?_
  refine lv_if_lt (tgt := 30) hx hb dX5_reaches_1 (by decide) (fun hc => ?_) (fun hc => ?_)
  · have h := h.1 hc
    refine lv_iconst (v := (0)) hx hb dX5_reaches_30 (by decide) ?_
    exact W.zret (v := (0 : Int32)) hx hb hr nar0 (fun t ht hW => ⟨(0 : Int32), rfl, ⟨h, nar0⟩, ht⟩) (fun q hq => absurd hq List.not_mem_nil) dX5_reaches_31
  · have h := h.2 hc
    refine lv_iload_n hx hb dX5_reaches_4 rfl (lv_at hl 2 rfl) ?_
    refine lv_aload_n hx hb dX5_reaches_5 rfl (lv_at hl 0 rfl) ?_
    refine va_get (D := D) (ci := 4) (v := .ref (a 1)) (C := RX5) (T := TX5) (N := 3) hx hb hts hi_X5_reaches_X5 hown hK.1 hP 0 rfl rfl 1 (by decide) (hts _ k_X5_reaches_1) (fun _ h9 => h9) rfl dX5_reaches_6 ?_
    refine lv_iload_n hx hb dX5_reaches_9 rfl (lv_at hl 1 rfl) ?_
    obtain ⟨hi, h⟩ := h
    refine x_iald (v := sizes r.toNatClampNeg) hx hb hK hP 1 rfl hi rfl dX5_reaches_10 ?_
    refine lv_icmp_gt (tgt := 30) hx hb dX5_reaches_11 (by decide) (fun hc => ?_) (fun hc => ?_)
    · have h := h.1 hc
      refine lv_iconst (v := (0)) hx hb dX5_reaches_30 (by decide) ?_
      exact W.zret (v := (0 : Int32)) hx hb hr nar0 (fun t ht hW => ⟨(0 : Int32), rfl, ⟨h, nar0⟩, ht⟩) (fun q hq => absurd hq List.not_mem_nil) dX5_reaches_31
    · have h := h.2 hc
      refine lv_iload_n hx hb dX5_reaches_14 rfl (lv_at hl 3 rfl) ?_
      refine lv_aload_n hx hb dX5_reaches_15 rfl (lv_at hl 0 rfl) ?_
      refine va_get (D := D) (ci := 4) (v := .ref (a 1)) (C := RX5) (T := TX5) (N := 3) hx hb hts hi_X5_reaches_X5 hown hK.1 hP 0 rfl rfl 1 (by decide) (hts _ k_X5_reaches_1) (fun _ h9 => h9) rfl dX5_reaches_16 ?_
      refine lv_iload_n hx hb dX5_reaches_19 rfl (lv_at hl 1 rfl) ?_
      obtain ⟨hi, h⟩ := h
      refine x_iald (v := sizes r.toNatClampNeg) hx hb hK hP 1 rfl hi rfl dX5_reaches_20 ?_
      refine lv_iload_n hx hb dX5_reaches_21 rfl (lv_at hl 2 rfl) ?_
      refine lv_isub hx hb dX5_reaches_22 ?_
      refine lv_icmp_gt (tgt := 30) hx hb dX5_reaches_23 (by decide) (fun hc => ?_) (fun hc => ?_)
      · have h := h.1 hc
        refine lv_iconst (v := (0)) hx hb dX5_reaches_30 (by decide) ?_
        exact W.zret (v := (0 : Int32)) hx hb hr nar0 (fun t ht hW => ⟨(0 : Int32), rfl, ⟨h, nar0⟩, ht⟩) (fun q hq => absurd hq List.not_mem_nil) dX5_reaches_31
      · have h := h.2 hc
        refine lv_iconst (v := (1)) hx hb dX5_reaches_26 (by decide) ?_
        refine lv_goto (tgt := 31) hx hb dX5_reaches_27 (by decide) ?_
        exact W.zret (v := (1 : Int32)) hx hb hr nar1 (fun t ht hW => ⟨(1 : Int32), rfl, ⟨h, nar1⟩, ht⟩) (fun q hq => absurd hq List.not_mem_nil) dX5_reaches_31

-- IronedQuarrels$Shelf.move(IIIII)V
def wp_X5_move (nc : Nat) (width : Int32) (cells : Nat → Int32) (r : Int32) (i : Int32) (to : Int32) (j : Int32) (n : Int32) (post : (Nat → Int32) → Prop) : Prop :=
  ¬ ((r * width) + i) < 0 ∧ ¬ ((to * width) + j) < 0 ∧ ¬ n < 0 ∧ ((r * width) + i).toNatClampNeg + n.toNatClampNeg ≤ nc ∧ ((to * width) + j).toNatClampNeg + n.toNatClampNeg ≤ nc ∧ post (va_cpy cells cells (((r * width) + i).toNatClampNeg) (((to * width) + j).toNatClampNeg) n.toNatClampNeg)
def rm_X5_move : Room := { frames := 1, cells := 0, slots := 0, locals := 40 }
theorem k_X5_move_1 : Cond.fieldLink RX5 19 "IronedQuarrels$Shelf" "cells" "[I" ∈ wsX5_move := List.mem_of_getElem? (i := 1) (by decide +kernel)
theorem k_X5_move_2 : Cond.fieldLink RX5 9 "IronedQuarrels$Shelf" "width" "I" ∈ wsX5_move := List.mem_of_getElem? (i := 2) (by decide +kernel)
theorem k_X5_move_3 : Cond.methodLink RX5 31 arraycopyName ∈ wsX5_move := List.mem_of_getElem? (i := 3) (by decide +kernel)
theorem k_X5_move_4 : Cond.native arraycopyName ∈ wsX5_move := List.mem_of_getElem? (i := 4) (by decide +kernel)
theorem k_X5_move_5 : Cond.static arraycopyName ∈ wsX5_move := List.mem_of_getElem? (i := 5) (by decide +kernel)
theorem k_X5_move_6 : Cond.initialized "java/lang/System" ∈ wsX5_move := List.mem_of_getElem? (i := 6) (by decide +kernel)
theorem hi_X5_move_X5 : ∀ w ∈ wsX50, w ∈ wsX5_move := fun w h => List.mem_cons_of_mem _ (List.mem_append_right _ h)
set_option maxHeartbeats 4000000 in
set_option maxRecDepth 100000 in
theorem c_X5_move (l : Launch) (D : va_G) (ca : Nat → ClassId) (a : Nat → Nat) (ns : Nat) (nc : Nat) (width : Int32) (sizes : Nat → Int32) (cells : Nat → Int32) (r : Int32) (i : Int32) (to : Int32) (j : Int32) (n : Int32) (post : (Nat → Int32) → Prop) (hd : va_D (fun _ => True) (W_X5 ca a ns nc width sizes cells)) (h : wp_X5_move nc width cells r i to j n post) : Met l yX5_move wsX5_move rm_X5_move (PcX D ca [.ref (a 0), .int r, .int i, .int to, .int j, .int n] (W_X5 ca a ns nc width sizes cells)) (wrV (S := (Nat → Int32)) D (W_X5 ca a ns nc width sizes cells) (fun u => W_X5 ca a ns nc width sizes u) (fun u => post u)) 0 0 (adr (W_X5 ca a ns nc width sizes cells)) := by
  refine Met.ofW (cc := cX5_move) (maxL := 6) (ret := none) (by decide) rfl ?_
  intro zp ze zs zm za zb zt zc z1 B hml hv
  obtain ⟨rfl, hP, hK⟩ := hv
  have hx := B.exec
  have hb := B.bytes
  have hr := B.returns
  have hts := atoms_spec (ws := wsX5_move) B.pre
  have hown : zs.vm.findClass RX5 = some zm.cls := findClass_of_methodNamed B.named
  have hlocks := B.notSynchronized
  have hD : va_D (adr (W_X5 ca a ns nc width sizes cells)) (W_X5 ca a ns nc width sizes cells) := hd.adr
  have hS : va_S (adr (W_X5 ca a ns nc width sizes cells)) zs.heap zs.heap [] := va_S.rf
  have hl := lv_entry ([.ref (a 0), .int r, .int i, .int to, .int j, .int n]) (n := 6) (Nat.le_of_ble_eq_true rfl)
  rw [lg_entry_eq]
  generalize (lg_sl ([.ref (a 0), .int r, .int i, .int to, .int j, .int n]) ++ List.replicate (6 - (lg_sl ([.ref (a 0), .int r, .int i, .int to, .int j, .int n])).length) Slot.unset).toArray = ls at hl ⊢
  replace hl : lv_has ls 6 [(0, .ref (a 0)), (1, .int r), (2, .int i), (3, .int to), (4, .int j), (5, .int n)] := hl
  show W zp l ze rm_X5_move zs zm ([.ref (a 0), .int r, .int i, .int to, .int j, .int n] : List Value).toArray zb zt zc zs.heap [] 0 0 (MQ zb (wrV (S := (Nat → Int32)) D (W_X5 ca a ns nc width sizes cells) (fun u => W_X5 ca a ns nc width sizes u) (fun u => post u)) ([.ref (a 0), .int r, .int i, .int to, .int j, .int n] : List Value).toArray zs 0 0 (adr (W_X5 ca a ns nc width sizes cells))) (F0 zm 0 ls [])
  unfold wp_X5_move at h
  refine lv_aload_n hx hb dX5_move_0 rfl (lv_at hl 0 rfl) ?_
  refine va_get (D := D) (ci := 4) (v := .ref (a 2)) (C := RX5) (T := TX5) (N := 3) hx hb hts hi_X5_move_X5 hown hK.1 hP 0 rfl rfl 2 (by decide) (hts _ k_X5_move_1) (fun _ h9 => h9) rfl dX5_move_1 ?_
  refine lv_iload_n hx hb dX5_move_4 rfl (lv_at hl 1 rfl) ?_
  refine lv_aload_n hx hb dX5_move_5 rfl (lv_at hl 0 rfl) ?_
  refine va_get (D := D) (ci := 4) (v := .int width) (C := RX5) (T := TX5) (N := 3) hx hb hts hi_X5_move_X5 hown hK.1 hP 0 rfl rfl 0 (by decide) (hts _ k_X5_move_2) (fun _ h9 => h9) rfl dX5_move_6 ?_
  refine lv_imul hx hb dX5_move_9 ?_
  refine lv_iload_n hx hb dX5_move_10 rfl (lv_at hl 2 rfl) ?_
  refine lv_iadd hx hb dX5_move_11 ?_
  refine lv_aload_n hx hb dX5_move_12 rfl (lv_at hl 0 rfl) ?_
  refine va_get (D := D) (ci := 4) (v := .ref (a 2)) (C := RX5) (T := TX5) (N := 3) hx hb hts hi_X5_move_X5 hown hK.1 hP 0 rfl rfl 2 (by decide) (hts _ k_X5_move_1) (fun _ h9 => h9) rfl dX5_move_13 ?_
  refine lv_iload_n hx hb dX5_move_16 rfl (lv_at hl 3 rfl) ?_
  refine lv_aload_n hx hb dX5_move_17 rfl (lv_at hl 0 rfl) ?_
  refine va_get (D := D) (ci := 4) (v := .int width) (C := RX5) (T := TX5) (N := 3) hx hb hts hi_X5_move_X5 hown hK.1 hP 0 rfl rfl 0 (by decide) (hts _ k_X5_move_2) (fun _ h9 => h9) rfl dX5_move_18 ?_
  refine lv_imul hx hb dX5_move_21 ?_
  refine lv_iload hx hb dX5_move_22 (lv_at hl 4 rfl) ?_
  refine lv_iadd hx hb dX5_move_24 ?_
  refine lv_iload hx hb dX5_move_25 (lv_at hl 5 rfl) ?_
  obtain ⟨h1, h2, h3, h4, h5, h⟩ := h
  refine va_copyi hx hb (by rw [hml]; exact hl.1.symm) hown (hts _ k_X5_move_3) (hts _ k_X5_move_4) (hts _ k_X5_move_5) (hts _ k_X5_move_6) hK.1 hP hD hS 2 2 0 0 rfl rfl rfl rfl rfl h1 h2 h3 h4 h5 (fun _ _ => rfl) (Nat.le_of_ble_eq_true rfl) (Nat.le_of_ble_eq_true rfl) dX5_move_27 (fun H locs hP hD hS => ?_)
  have hP : va_P D vwCl (W_X5 ca a ns nc width sizes (va_cpy cells cells (((r * width) + i).toNatClampNeg) (((to * width) + j).toNatClampNeg) n.toNatClampNeg)) H := hP
  have hD : va_D _ (W_X5 ca a ns nc width sizes (va_cpy cells cells (((r * width) + i).toNatClampNeg) (((to * width) + j).toNatClampNeg) n.toNatClampNeg)) := hD
  exact W.vret hx hb hr (fun t ht hW => ⟨⟨(va_cpy cells cells (((r * width) + i).toNatClampNeg) (((to * width) + j).toNatClampNeg) n.toNatClampNeg), rfl, h, by rw [ht]; exact hP⟩, hS.F ht⟩) hS.2.2 dX5_move_30

-- IronedQuarrels$Shelf.sizeOf(I)I
def wp_X5_sizeOf (ns : Nat) (sizes : Nat → Int32) (r : Int32) (post : Int32 → Prop) : Prop :=
  vp_in r ns ∧ post (sizes r.toNatClampNeg)
def rm_X5_sizeOf : Room := { frames := 0, cells := 0, slots := 0, locals := 0 }
theorem k_X5_sizeOf_1 : Cond.fieldLink RX5 15 "IronedQuarrels$Shelf" "sizes" "[I" ∈ wsX5_sizeOf := List.mem_of_getElem? (i := 1) (by decide +kernel)
theorem hi_X5_sizeOf_X5 : ∀ w ∈ wsX50, w ∈ wsX5_sizeOf := fun w h => List.mem_cons_of_mem _ (List.mem_append_right _ h)
set_option maxHeartbeats 4000000 in
set_option maxRecDepth 100000 in
theorem c_X5_sizeOf (l : Launch) (D : va_G) (ca : Nat → ClassId) (a : Nat → Nat) (ns : Nat) (nc : Nat) (width : Int32) (sizes : Nat → Int32) (cells : Nat → Int32) (r : Int32) (post : Int32 → Prop) (h : wp_X5_sizeOf ns sizes r post) : Met l yX5_sizeOf wsX5_sizeOf rm_X5_sizeOf (PcX D ca [.ref (a 0), .int r] (W_X5 ca a ns nc width sizes cells)) (rdI post) 0 0 (fun _ => False) := by
  refine Met.ofW (cc := cX5_sizeOf) (maxL := 2) (ret := (some .int)) (by decide) rfl ?_
  intro zp ze zs zm za zb zt zc z1 B hml hv
  obtain ⟨rfl, hP, hK⟩ := hv
  have hx := B.exec
  have hb := B.bytes
  have hr := B.returns
  have hts := atoms_spec (ws := wsX5_sizeOf) B.pre
  have hown : zs.vm.findClass RX5 = some zm.cls := findClass_of_methodNamed B.named
  have hlocks := B.notSynchronized
  have hl := lv_entry ([.ref (a 0), .int r]) (n := 2) (Nat.le_of_ble_eq_true rfl)
  rw [lg_entry_eq]
  generalize (lg_sl ([.ref (a 0), .int r]) ++ List.replicate (2 - (lg_sl ([.ref (a 0), .int r])).length) Slot.unset).toArray = ls at hl ⊢
  replace hl : lv_has ls 2 [(0, .ref (a 0)), (1, .int r)] := hl
  show W zp l ze rm_X5_sizeOf zs zm ([.ref (a 0), .int r] : List Value).toArray zb zt zc zs.heap [] 0 0 (MQ zb (rdI post) ([.ref (a 0), .int r] : List Value).toArray zs 0 0 (fun _ => False)) (F0 zm 0 ls [])
  unfold wp_X5_sizeOf at h
  refine lv_aload_n hx hb dX5_sizeOf_0 rfl (lv_at hl 0 rfl) ?_
  refine va_get (D := D) (ci := 4) (v := .ref (a 1)) (C := RX5) (T := TX5) (N := 3) hx hb hts hi_X5_sizeOf_X5 hown hK.1 hP 0 rfl rfl 1 (by decide) (hts _ k_X5_sizeOf_1) (fun _ h9 => h9) rfl dX5_sizeOf_1 ?_
  refine lv_iload_n hx hb dX5_sizeOf_4 rfl (lv_at hl 1 rfl) ?_
  obtain ⟨hi, h⟩ := h
  refine x_iald (v := sizes r.toNatClampNeg) hx hb hK hP 1 rfl hi rfl dX5_sizeOf_5 ?_
  exact W.iret (v := sizes r.toNatClampNeg) hx hb hr (fun t ht hW => ⟨sizes r.toNatClampNeg, rfl, h, ht⟩) (fun q hq => absurd hq List.not_mem_nil) dX5_sizeOf_6

-- IronedQuarrels$Shelf.sumOf(I)J
def wb_X5_sumOf_5 (ns : Nat) (nc : Nat) (width : Int32) (sizes : Nat → Int32) (cells : Nat → Int32) (r : Int32) (post : Int64 → Prop) (K5 : (Int64) → (Int32) → Prop) (x2 : Int64) (x4 : Int32) : Prop :=
  vp_in r ns ∧ ((sizes r.toNatClampNeg) ≤ x4 → (post x2)) ∧ (¬ (sizes r.toNatClampNeg) ≤ x4 → (wp_X5_cell nc width cells r x4 (fun r1 => K5 (x2 + r1.toInt64) (x4 + 1))))
def wl_X5_sumOf_5 (ns : Nat) (nc : Nat) (width : Int32) (sizes : Nat → Int32) (cells : Nat → Int32) (r : Int32) (post : Int64 → Prop) : Nat → (Int64) → (Int32) → Prop
  | 0 => fun _ _ => False
  | zn + 1 => wb_X5_sumOf_5 ns nc width sizes cells r post (wl_X5_sumOf_5 ns nc width sizes cells r post zn)
def wp_X5_sumOf (ns : Nat) (nc : Nat) (width : Int32) (sizes : Nat → Int32) (cells : Nat → Int32) (r : Int32) (post : Int64 → Prop) : Prop :=
  ∃ zn, wl_X5_sumOf_5 ns nc width sizes cells r post zn (0 : Int64) (0 : Int32)
def rm_X5_sumOf : Room := { frames := 1, cells := 0, slots := 0, locals := 22 }
theorem k_X5_sumOf_1 : Cond.fieldLink RX5 15 "IronedQuarrels$Shelf" "sizes" "[I" ∈ wsX5_sumOf := List.mem_of_getElem? (i := 1) (by decide +kernel)
theorem hi_X5_sumOf_X5 : ∀ w ∈ wsX50, w ∈ wsX5_sumOf := fun w h => List.mem_cons_of_mem _ (List.mem_append_right _ h)
set_option maxHeartbeats 4000000 in
set_option maxRecDepth 100000 in
theorem c_X5_sumOf (l : Launch) (D : va_G) (ca : Nat → ClassId) (a : Nat → Nat) (ns : Nat) (nc : Nat) (width : Int32) (sizes : Nat → Int32) (cells : Nat → Int32) (r : Int32) (post : Int64 → Prop) (h : wp_X5_sumOf ns nc width sizes cells r post) : Met l yX5_sumOf wsX5_sumOf rm_X5_sumOf (PcX D ca [.ref (a 0), .int r] (W_X5 ca a ns nc width sizes cells)) (rdL post) 0 0 (fun _ => False) := by
  refine Met.ofW (cc := cX5_sumOf) (maxL := 5) (ret := (some .long)) (by decide) rfl ?_
  intro zp ze zs zm za zb zt zc z1 B hml hv
  obtain ⟨rfl, hP, hK⟩ := hv
  have hx := B.exec
  have hb := B.bytes
  have hr := B.returns
  have hts := atoms_spec (ws := wsX5_sumOf) B.pre
  have hown : zs.vm.findClass RX5 = some zm.cls := findClass_of_methodNamed B.named
  have hlocks := B.notSynchronized
  have hl := lv_entry ([.ref (a 0), .int r]) (n := 5) (Nat.le_of_ble_eq_true rfl)
  rw [lg_entry_eq]
  generalize (lg_sl ([.ref (a 0), .int r]) ++ List.replicate (5 - (lg_sl ([.ref (a 0), .int r])).length) Slot.unset).toArray = ls at hl ⊢
  replace hl : lv_has ls 5 [(0, .ref (a 0)), (1, .int r)] := hl
  show W zp l ze rm_X5_sumOf zs zm ([.ref (a 0), .int r] : List Value).toArray zb zt zc zs.heap [] 0 0 (MQ zb (rdL post) ([.ref (a 0), .int r] : List Value).toArray zs 0 0 (fun _ => False)) (F0 zm 0 ls [])
  have w_5 : ∀ (zn : Nat) (x2 : Int64) (x4 : Int32), wl_X5_sumOf_5 ns nc width sizes cells r post zn x2 x4 → ∀ ls : Array Slot, lv_has ls 5 [(0, .ref (a 0)), (1, .int r), (2, .long x2), (4, .int x4)] → W zp l ze rm_X5_sumOf zs zm ([.ref (a 0), .int r] : List Value).toArray zb zt zc zs.heap [] 0 0 (MQ zb (rdL post) ([.ref (a 0), .int r] : List Value).toArray zs 0 0 (fun _ => False)) (F0 zm 5 ls []) := by
    intro zn
    induction zn with
    | zero => intro x2 x4 h; exact h.elim
    | succ zn ih5 =>
      intro x2 x4 h ls hl
      replace h : wb_X5_sumOf_5 ns nc width sizes cells r post (wl_X5_sumOf_5 ns nc width sizes cells r post zn) x2 x4 := h
      unfold wb_X5_sumOf_5 at h
      refine lv_iload hx hb dX5_sumOf_5 (lv_at hl 3 rfl) ?_
      refine lv_aload_n hx hb dX5_sumOf_7 rfl (lv_at hl 0 rfl) ?_
      refine va_get (D := D) (ci := 4) (v := .ref (a 1)) (C := RX5) (T := TX5) (N := 3) hx hb hts hi_X5_sumOf_X5 hown hK.1 hP 0 rfl rfl 1 (by decide) (hts _ k_X5_sumOf_1) (fun _ h9 => h9) rfl dX5_sumOf_8 ?_
      refine lv_iload_n hx hb dX5_sumOf_11 rfl (lv_at hl 1 rfl) ?_
      obtain ⟨hi, h⟩ := h
      refine x_iald (v := sizes r.toNatClampNeg) hx hb hK hP 1 rfl hi rfl dX5_sumOf_12 ?_
      refine lv_icmp_ge (tgt := 33) hx hb dX5_sumOf_13 (by decide) (fun hc => ?_) (fun hc => ?_)
      · have h := h.1 hc
        refine lv_lload_n hx hb dX5_sumOf_33 rfl (lv_at hl 2 rfl) ?_
        exact W.lret (v := x2) hx hb hr (fun t ht hW => ⟨x2, rfl, h, ht⟩) (fun q hq => absurd hq List.not_mem_nil) dX5_sumOf_34
      · have h := h.2 hc
        refine lv_lload_n hx hb dX5_sumOf_16 rfl (lv_at hl 2 rfl) ?_
        refine lv_aload_n hx hb dX5_sumOf_17 rfl (lv_at hl 0 rfl) ?_
        refine lv_iload_n hx hb dX5_sumOf_18 rfl (lv_at hl 1 rfl) ?_
        refine lv_iload hx hb dX5_sumOf_19 (lv_at hl 3 rfl) ?_
        refine rd_calli (va_runV (As := [.int r, .int x4]) (rest := [.long x2]) ⟨hx, hb, hml, hown, hts⟩ (c_X5_cell l D ca a ns nc width sizes cells r x4 _ h) (cwV 2 hts gX5_sumOf_X5_cell rfl rfl rfl (by decide +kernel) ⟨Nat.le_of_ble_eq_true rfl, Nat.le_of_ble_eq_true rfl⟩) (PcX.preV (q := (RX5, TX5, 3)) (ci := 4) (q0 := 0) hK hP rfl rfl hP) rfl rfl hl.1 rfl (lv_room (Nat.le_of_ble_eq_true rfl)) dX5_sumOf_21 ⟨Nat.le_of_ble_eq_true rfl, Nat.le_of_ble_eq_true rfl⟩) (fun r1 h => ?_)
        try dsimp only at h
        refine lv_i2l hx hb dX5_sumOf_24 rfl ?_
        refine lv_ladd hx hb dX5_sumOf_25 ?_
        refine lv_lstore_n (lv' := [(2, .long (x2 + r1.toInt64)), (0, .ref (a 0)), (1, .int r), (4, .int x4)]) hx hb dX5_sumOf_26 rfl hl (by decide) rfl (fun ls hl => ?_)
        refine lv_iinc (v := x4 + 1) (lv' := [(4, .int (x4 + 1)), (2, .long (x2 + r1.toInt64)), (0, .ref (a 0)), (1, .int r)]) hx hb dX5_sumOf_27 hl (k := 3) rfl rfl (by decide) rfl (fun ls hl => ?_)
        refine lv_goto (tgt := 5) hx hb dX5_sumOf_30 (by decide) ?_
        exact ih5 (x2 + r1.toInt64) (x4 + 1) h ls (lv_sub hl [2, 3, 1, 0] rfl)
  unfold wp_X5_sumOf at h
  refine lv_lconst (v := (0)) hx hb dX5_sumOf_0 (by decide) ?_
  refine lv_lstore_n (lv' := [(2, .long (0 : Int64)), (0, .ref (a 0)), (1, .int r)]) hx hb dX5_sumOf_1 rfl hl (by decide) rfl (fun ls hl => ?_)
  refine lv_iconst (v := (0)) hx hb dX5_sumOf_2 (by decide) ?_
  refine lv_istore (lv' := [(4, .int (0 : Int32)), (2, .long (0 : Int64)), (0, .ref (a 0)), (1, .int r)]) hx hb dX5_sumOf_3 hl (by decide) rfl (fun ls hl => ?_)
  obtain ⟨zn, h⟩ := h
  exact w_5  zn (0 : Int64) (0 : Int32) h ls (lv_sub hl [2, 3, 1, 0] rfl)

-- IronedQuarrels$Share.commonOf(JJ)J
def wb_X4_commonOf_9 (post : Int64 → Prop) (K9 : (Int64) → (Int64) → (Int32) → Prop) (x4 : Int64) (x6 : Int64) (x8 : Int32) : Prop :=
  ((200 : Int32) ≤ x8 → (post x4)) ∧ (¬ (200 : Int32) ≤ x8 → (((lg_cmp x6 (0 : Int64)) = 0 → (post x4)) ∧ (¬ (lg_cmp x6 (0 : Int64)) = 0 → (¬ x6 = 0 ∧ K9 x6 (x4 - x4 / x6 * x6) (x8 + 1)))))
def wl_X4_commonOf_9 (post : Int64 → Prop) : Nat → (Int64) → (Int64) → (Int32) → Prop
  | 0 => fun _ _ _ => False
  | zn + 1 => wb_X4_commonOf_9 post (wl_X4_commonOf_9 post zn)
def wp_X4_commonOf (up : Int64) (down : Int64) (post : Int64 → Prop) : Prop :=
  ∃ zn, wl_X4_commonOf_9 post zn up down (0 : Int32)
def rm_X4_commonOf : Room := { frames := 0, cells := 0, slots := 0, locals := 0 }
set_option maxHeartbeats 4000000 in
set_option maxRecDepth 100000 in
theorem c_X4_commonOf (l : Launch) (D : va_G) (ca : Nat → ClassId)   (up : Int64) (down : Int64) (post : Int64 → Prop) (h : wp_X4_commonOf up down post) : Met l yX4_commonOf wsX4_commonOf rm_X4_commonOf (PcX D ca [.long up, .long down] ([])) (rdL post) 0 0 (fun _ => False) := by
  refine Met.ofW (cc := cX4_commonOf) (maxL := 11) (ret := (some .long)) (by decide) rfl ?_
  intro zp ze zs zm za zb zt zc z1 B hml hv
  obtain ⟨rfl, hP, hK⟩ := hv
  have hx := B.exec
  have hb := B.bytes
  have hr := B.returns
  have hts := atoms_spec (ws := wsX4_commonOf) B.pre
  have hown : zs.vm.findClass RX4 = some zm.cls := findClass_of_methodNamed B.named
  have hlocks := B.notSynchronized
  have hl := lv_entry ([.long up, .long down]) (n := 11) (Nat.le_of_ble_eq_true rfl)
  rw [lg_entry_eq]
  generalize (lg_sl ([.long up, .long down]) ++ List.replicate (11 - (lg_sl ([.long up, .long down])).length) Slot.unset).toArray = ls at hl ⊢
  replace hl : lv_has ls 11 [(0, .long up), (2, .long down)] := hl
  show W zp l ze rm_X4_commonOf zs zm ([.long up, .long down] : List Value).toArray zb zt zc zs.heap [] 0 0 (MQ zb (rdL post) ([.long up, .long down] : List Value).toArray zs 0 0 (fun _ => False)) (F0 zm 0 ls [])
  have w_9 : ∀ (zn : Nat) (x4 : Int64) (x6 : Int64) (x8 : Int32), wl_X4_commonOf_9 post zn x4 x6 x8 → ∀ ls : Array Slot, lv_has ls 11 [(4, .long x4), (6, .long x6), (8, .int x8)] → W zp l ze rm_X4_commonOf zs zm ([.long up, .long down] : List Value).toArray zb zt zc zs.heap [] 0 0 (MQ zb (rdL post) ([.long up, .long down] : List Value).toArray zs 0 0 (fun _ => False)) (F0 zm 9 ls []) := by
    intro zn
    induction zn with
    | zero => intro x4 x6 x8 h; exact h.elim
    | succ zn ih9 =>
      intro x4 x6 x8 h ls hl
      replace h : wb_X4_commonOf_9 post (wl_X4_commonOf_9 post zn) x4 x6 x8 := h
      unfold wb_X4_commonOf_9 at h
      refine lv_iload hx hb dX4_commonOf_9 (lv_at hl 2 rfl) ?_
      refine lv_sipush (v := (200)) hx hb dX4_commonOf_11 (by decide) ?_
      refine lv_icmp_ge (tgt := 45) hx hb dX4_commonOf_14 (by decide) (fun hc => ?_) (fun hc => ?_)
      · have h := h.1 hc
        refine lv_lload hx hb dX4_commonOf_45 (lv_at hl 0 rfl) ?_
        exact W.lret (v := x4) hx hb hr (fun t ht hW => ⟨x4, rfl, h, ht⟩) (fun q hq => absurd hq List.not_mem_nil) dX4_commonOf_47
      · have h := h.2 hc
        refine lv_lload hx hb dX4_commonOf_17 (lv_at hl 1 rfl) ?_
        refine lv_lconst (v := (0)) hx hb dX4_commonOf_19 (by decide) ?_
        refine W.lcmp hx hb dX4_commonOf_20 ?_
        refine lv_if_eq (tgt := 45) hx hb dX4_commonOf_21 (by decide) (fun hc => ?_) (fun hc => ?_)
        · have h := h.1 hc
          refine lv_lload hx hb dX4_commonOf_45 (lv_at hl 0 rfl) ?_
          exact W.lret (v := x4) hx hb hr (fun t ht hW => ⟨x4, rfl, h, ht⟩) (fun q hq => absurd hq List.not_mem_nil) dX4_commonOf_47
        · have h := h.2 hc
          refine lv_lload hx hb dX4_commonOf_24 (lv_at hl 0 rfl) ?_
          refine lv_lload hx hb dX4_commonOf_26 (lv_at hl 1 rfl) ?_
          obtain ⟨h0, h⟩ := h
          refine lv_lrem hx hb dX4_commonOf_28 h0 ?_
          refine lv_lstore (lv' := [(9, .long (x4 - x4 / x6 * x6)), (4, .long x4), (6, .long x6), (8, .int x8)]) hx hb dX4_commonOf_29 hl (by decide) rfl (fun ls hl => ?_)
          refine lv_lload hx hb dX4_commonOf_31 (lv_at hl 2 rfl) ?_
          refine lv_lstore (lv' := [(4, .long x6), (9, .long (x4 - x4 / x6 * x6)), (6, .long x6), (8, .int x8)]) hx hb dX4_commonOf_33 hl (by decide) rfl (fun ls hl => ?_)
          refine lv_lload hx hb dX4_commonOf_35 (lv_at hl 1 rfl) ?_
          refine lv_lstore (lv' := [(6, .long (x4 - x4 / x6 * x6)), (4, .long x6), (9, .long (x4 - x4 / x6 * x6)), (8, .int x8)]) hx hb dX4_commonOf_37 hl (by decide) rfl (fun ls hl => ?_)
          refine lv_iinc (v := x8 + 1) (lv' := [(8, .int (x8 + 1)), (6, .long (x4 - x4 / x6 * x6)), (4, .long x6), (9, .long (x4 - x4 / x6 * x6))]) hx hb dX4_commonOf_39 hl (k := 3) rfl rfl (by decide) rfl (fun ls hl => ?_)
          refine lv_goto (tgt := 9) hx hb dX4_commonOf_42 (by decide) ?_
          exact ih9 x6 (x4 - x4 / x6 * x6) (x8 + 1) h ls (lv_sub hl [2, 1, 0] rfl)
  unfold wp_X4_commonOf at h
  refine lv_lload_n hx hb dX4_commonOf_0 rfl (lv_at hl 0 rfl) ?_
  refine lv_lstore (lv' := [(4, .long up), (0, .long up), (2, .long down)]) hx hb dX4_commonOf_1 hl (by decide) rfl (fun ls hl => ?_)
  refine lv_lload_n hx hb dX4_commonOf_3 rfl (lv_at hl 2 rfl) ?_
  refine lv_lstore (lv' := [(6, .long down), (4, .long up), (0, .long up), (2, .long down)]) hx hb dX4_commonOf_4 hl (by decide) rfl (fun ls hl => ?_)
  refine lv_iconst (v := (0)) hx hb dX4_commonOf_6 (by decide) ?_
  refine lv_istore (lv' := [(8, .int (0 : Int32)), (6, .long down), (4, .long up), (0, .long up), (2, .long down)]) hx hb dX4_commonOf_7 hl (by decide) rfl (fun ls hl => ?_)
  obtain ⟨zn, h⟩ := h
  exact w_9  zn up down (0 : Int32) h ls (lv_sub hl [2, 1, 0] rfl)

-- IronedQuarrels$Share.tell(JJ)V
def wp_X4_tell (up : Int64) (down : Int64) (post : (Int64) → (Int64) → Prop) : Prop :=
  wp_X4_commonOf up down (fun r1 => ¬ (if r1 < (1 : Int64) then (1 : Int64) else r1) = 0 ∧ ¬ (if r1 < (1 : Int64) then (1 : Int64) else r1) = 0 ∧ post (up / (if r1 < (1 : Int64) then (1 : Int64) else r1)) (down / (if r1 < (1 : Int64) then (1 : Int64) else r1)))
def rm_X4_tell : Room := { frames := 1, cells := 0, slots := 0, locals := 40 }
theorem k_X4_tell_1 : Cond.methodLink RX4 20 Lib.MathLoose.max_long.x ∈ wsX4_tell := List.mem_of_getElem? (i := 1) (by decide +kernel)
theorem k_X4_tell_2 : Cond.static Lib.MathLoose.max_long.x ∈ wsX4_tell := List.mem_of_getElem? (i := 2) (by decide +kernel)
theorem k_X4_tell_3 : Cond.initialized "java/lang/Math" ∈ wsX4_tell := List.mem_of_getElem? (i := 3) (by decide +kernel)
theorem k_X4_tell_4 : Cond.code Lib.MathLoose.max_long.x Lib.MathLoose.max_long.code 4 (some .long) ∈ wsX4_tell := List.mem_of_getElem? (i := 4) (by decide +kernel)
theorem k_X4_tell_5 : Cond.fieldLink RX4 7 "IronedQuarrels$Share" "top" "J" ∈ wsX4_tell := List.mem_of_getElem? (i := 5) (by decide +kernel)
theorem k_X4_tell_6 : Cond.fieldLink RX4 13 "IronedQuarrels$Share" "bottom" "J" ∈ wsX4_tell := List.mem_of_getElem? (i := 6) (by decide +kernel)
theorem hi_X4_tell_X4 : ∀ w ∈ wsX40, w ∈ wsX4_tell := fun w h => List.mem_cons_of_mem _ (List.mem_append_right _ h)
set_option maxHeartbeats 4000000 in
set_option maxRecDepth 100000 in
theorem c_X4_tell (l : Launch) (D : va_G) (ca : Nat → ClassId) (a : Nat → Nat) (top : Int64) (bottom : Int64) (up : Int64) (down : Int64) (post : (Int64) → (Int64) → Prop) (hd : va_D (fun _ => True) (W_X4 ca a top bottom)) (h : wp_X4_tell up down post) : Met l yX4_tell wsX4_tell rm_X4_tell (PcX D ca [.ref (a 0), .long up, .long down] (W_X4 ca a top bottom)) (wrV (S := (Int64) × (Int64)) D (W_X4 ca a top bottom) (fun u => W_X4 ca a u.1 u.2) (fun u => post u.1 u.2)) 0 0 (adr (W_X4 ca a top bottom)) := by
  refine Met.ofW (cc := cX4_tell) (maxL := 7) (ret := none) (by decide) rfl ?_
  intro zp ze zs zm za zb zt zc z1 B hml hv
  obtain ⟨rfl, hP, hK⟩ := hv
  have hx := B.exec
  have hb := B.bytes
  have hr := B.returns
  have hts := atoms_spec (ws := wsX4_tell) B.pre
  have hown : zs.vm.findClass RX4 = some zm.cls := findClass_of_methodNamed B.named
  have hlocks := B.notSynchronized
  have hD : va_D (adr (W_X4 ca a top bottom)) (W_X4 ca a top bottom) := hd.adr
  have hS : va_S (adr (W_X4 ca a top bottom)) zs.heap zs.heap [] := va_S.rf
  have hl := lv_entry ([.ref (a 0), .long up, .long down]) (n := 7) (Nat.le_of_ble_eq_true rfl)
  rw [lg_entry_eq]
  generalize (lg_sl ([.ref (a 0), .long up, .long down]) ++ List.replicate (7 - (lg_sl ([.ref (a 0), .long up, .long down])).length) Slot.unset).toArray = ls at hl ⊢
  replace hl : lv_has ls 7 [(0, .ref (a 0)), (1, .long up), (3, .long down)] := hl
  show W zp l ze rm_X4_tell zs zm ([.ref (a 0), .long up, .long down] : List Value).toArray zb zt zc zs.heap [] 0 0 (MQ zb (wrV (S := (Int64) × (Int64)) D (W_X4 ca a top bottom) (fun u => W_X4 ca a u.1 u.2) (fun u => post u.1 u.2)) ([.ref (a 0), .long up, .long down] : List Value).toArray zs 0 0 (adr (W_X4 ca a top bottom))) (F0 zm 0 ls [])
  unfold wp_X4_tell at h
  refine lv_lconst (v := (1)) hx hb dX4_tell_0 (by decide) ?_
  refine lv_lload_n hx hb dX4_tell_1 rfl (lv_at hl 1 rfl) ?_
  refine lv_lload_n hx hb dX4_tell_2 rfl (lv_at hl 2 rfl) ?_
  refine rd_calll (va_runS (As := [.long up, .long down]) (rest := [.long (1 : Int64)]) ⟨hx, hb, hml, hown, hts⟩ (c_X4_commonOf l D ca   up down _ h) (va_cwS 2 hts gX4_tell_X4_commonOf rfl rfl rfl (by decide +kernel) ⟨Nat.le_of_ble_eq_true rfl, Nat.le_of_ble_eq_true rfl⟩) (PcX.preS hK (fun k q h => by simp at h)) rfl rfl hl.1 rfl (lv_room (Nat.le_of_ble_eq_true rfl)) dX4_tell_3 ⟨Nat.le_of_ble_eq_true rfl, Nat.le_of_ble_eq_true rfl⟩) (fun r1 h => ?_)
  try dsimp only at h
  refine va_mmax_long hx hb (by rw [hml]; exact hl.1.symm) hown (hts _ k_X4_tell_1) (hts _ k_X4_tell_2) (hts _ k_X4_tell_3) (hts _ k_X4_tell_4) (Nat.le_of_ble_eq_true rfl) (Nat.le_of_ble_eq_true rfl) (Nat.le_of_ble_eq_true rfl) (Nat.le_of_ble_eq_true rfl) dX4_tell_6 ?_
  refine lv_lstore (lv' := [(5, .long (if r1 < (1 : Int64) then (1 : Int64) else r1)), (0, .ref (a 0)), (1, .long up), (3, .long down)]) hx hb dX4_tell_9 hl (by decide) rfl (fun ls hl => ?_)
  refine lv_aload_n hx hb dX4_tell_11 rfl (lv_at hl 1 rfl) ?_
  refine lv_lload_n hx hb dX4_tell_12 rfl (lv_at hl 2 rfl) ?_
  refine lv_lload hx hb dX4_tell_13 (lv_at hl 0 rfl) ?_
  obtain ⟨h0, h⟩ := h
  refine lv_ldiv hx hb dX4_tell_15 h0 ?_
  refine va_put (D := D) (ci := 3) (v := .long (up / (if r1 < (1 : Int64) then (1 : Int64) else r1))) (ty := .long) (C := RX4) (T := TX4) (N := 2) hx hb hts hi_X4_tell_X4 tyX4 tyX4_ok nmX4 hown hK.1 hP hD hS 0 rfl rfl 0 (by decide) (hts _ k_X4_tell_5) (fun _ h9 => h9) rfl (by decide +kernel) rfl rfl (Nat.le_of_ble_eq_true rfl) dX4_tell_16 (fun H locs hP hD hS => ?_)
  have hP : va_P D vwCl (W_X4 ca a (up / (if r1 < (1 : Int64) then (1 : Int64) else r1)) bottom) H := hP
  have hD : va_D _ (W_X4 ca a (up / (if r1 < (1 : Int64) then (1 : Int64) else r1)) bottom) := hD
  refine lv_aload_n hx hb dX4_tell_19 rfl (lv_at hl 1 rfl) ?_
  refine lv_lload_n hx hb dX4_tell_20 rfl (lv_at hl 3 rfl) ?_
  refine lv_lload hx hb dX4_tell_21 (lv_at hl 0 rfl) ?_
  obtain ⟨h0, h⟩ := h
  refine lv_ldiv hx hb dX4_tell_23 h0 ?_
  refine va_put (D := D) (ci := 3) (v := .long (down / (if r1 < (1 : Int64) then (1 : Int64) else r1))) (ty := .long) (C := RX4) (T := TX4) (N := 2) hx hb hts hi_X4_tell_X4 tyX4 tyX4_ok nmX4 hown hK.1 hP hD hS 0 rfl rfl 1 (by decide) (hts _ k_X4_tell_6) (fun _ h9 => h9) rfl (by decide +kernel) rfl rfl (Nat.le_of_ble_eq_true rfl) dX4_tell_24 (fun H locs hP hD hS => ?_)
  have hP : va_P D vwCl (W_X4 ca a (up / (if r1 < (1 : Int64) then (1 : Int64) else r1)) (down / (if r1 < (1 : Int64) then (1 : Int64) else r1))) H := hP
  have hD : va_D _ (W_X4 ca a (up / (if r1 < (1 : Int64) then (1 : Int64) else r1)) (down / (if r1 < (1 : Int64) then (1 : Int64) else r1))) := hD
  exact W.vret hx hb hr (fun t ht hW => ⟨⟨(up / (if r1 < (1 : Int64) then (1 : Int64) else r1), down / (if r1 < (1 : Int64) then (1 : Int64) else r1)), rfl, h, by rw [ht]; exact hP⟩, hS.F ht⟩) hS.2.2 dX4_tell_27

-- IronedQuarrels$Share.top()J
def wp_X4_top (top : Int64) (post : Int64 → Prop) : Prop :=
  post top
def rm_X4_top : Room := { frames := 0, cells := 0, slots := 0, locals := 0 }
theorem k_X4_top_1 : Cond.fieldLink RX4 7 "IronedQuarrels$Share" "top" "J" ∈ wsX4_top := List.mem_of_getElem? (i := 1) (by decide +kernel)
theorem hi_X4_top_X4 : ∀ w ∈ wsX40, w ∈ wsX4_top := fun w h => List.mem_cons_of_mem _ (List.mem_append_right _ h)
set_option maxHeartbeats 4000000 in
set_option maxRecDepth 100000 in
theorem c_X4_top (l : Launch) (D : va_G) (ca : Nat → ClassId) (a : Nat → Nat) (top : Int64) (bottom : Int64)  (post : Int64 → Prop) (h : wp_X4_top top post) : Met l yX4_top wsX4_top rm_X4_top (PcX D ca [.ref (a 0)] (W_X4 ca a top bottom)) (rdL post) 0 0 (fun _ => False) := by
  refine Met.ofW (cc := cX4_top) (maxL := 1) (ret := (some .long)) (by decide) rfl ?_
  intro zp ze zs zm za zb zt zc z1 B hml hv
  obtain ⟨rfl, hP, hK⟩ := hv
  have hx := B.exec
  have hb := B.bytes
  have hr := B.returns
  have hts := atoms_spec (ws := wsX4_top) B.pre
  have hown : zs.vm.findClass RX4 = some zm.cls := findClass_of_methodNamed B.named
  have hlocks := B.notSynchronized
  have hl := lv_entry ([.ref (a 0)]) (n := 1) (Nat.le_of_ble_eq_true rfl)
  rw [lg_entry_eq]
  generalize (lg_sl ([.ref (a 0)]) ++ List.replicate (1 - (lg_sl ([.ref (a 0)])).length) Slot.unset).toArray = ls at hl ⊢
  replace hl : lv_has ls 1 [(0, .ref (a 0))] := hl
  show W zp l ze rm_X4_top zs zm ([.ref (a 0)] : List Value).toArray zb zt zc zs.heap [] 0 0 (MQ zb (rdL post) ([.ref (a 0)] : List Value).toArray zs 0 0 (fun _ => False)) (F0 zm 0 ls [])
  unfold wp_X4_top at h
  refine lv_aload_n hx hb dX4_top_0 rfl (lv_at hl 0 rfl) ?_
  refine va_get (D := D) (ci := 3) (v := .long top) (C := RX4) (T := TX4) (N := 2) hx hb hts hi_X4_top_X4 hown hK.1 hP 0 rfl rfl 0 (by decide) (hts _ k_X4_top_1) (fun _ h9 => h9) rfl dX4_top_1 ?_
  exact W.lret (v := top) hx hb hr (fun t ht hW => ⟨top, rfl, h, ht⟩) (fun q hq => absurd hq List.not_mem_nil) dX4_top_4

-- IronedQuarrels$Share.bottom()J
def wp_X4_bottom (bottom : Int64) (post : Int64 → Prop) : Prop :=
  post bottom
def rm_X4_bottom : Room := { frames := 0, cells := 0, slots := 0, locals := 0 }
theorem k_X4_bottom_1 : Cond.fieldLink RX4 13 "IronedQuarrels$Share" "bottom" "J" ∈ wsX4_bottom := List.mem_of_getElem? (i := 1) (by decide +kernel)
theorem hi_X4_bottom_X4 : ∀ w ∈ wsX40, w ∈ wsX4_bottom := fun w h => List.mem_cons_of_mem _ (List.mem_append_right _ h)
set_option maxHeartbeats 4000000 in
set_option maxRecDepth 100000 in
theorem c_X4_bottom (l : Launch) (D : va_G) (ca : Nat → ClassId) (a : Nat → Nat) (top : Int64) (bottom : Int64)  (post : Int64 → Prop) (h : wp_X4_bottom bottom post) : Met l yX4_bottom wsX4_bottom rm_X4_bottom (PcX D ca [.ref (a 0)] (W_X4 ca a top bottom)) (rdL post) 0 0 (fun _ => False) := by
  refine Met.ofW (cc := cX4_bottom) (maxL := 1) (ret := (some .long)) (by decide) rfl ?_
  intro zp ze zs zm za zb zt zc z1 B hml hv
  obtain ⟨rfl, hP, hK⟩ := hv
  have hx := B.exec
  have hb := B.bytes
  have hr := B.returns
  have hts := atoms_spec (ws := wsX4_bottom) B.pre
  have hown : zs.vm.findClass RX4 = some zm.cls := findClass_of_methodNamed B.named
  have hlocks := B.notSynchronized
  have hl := lv_entry ([.ref (a 0)]) (n := 1) (Nat.le_of_ble_eq_true rfl)
  rw [lg_entry_eq]
  generalize (lg_sl ([.ref (a 0)]) ++ List.replicate (1 - (lg_sl ([.ref (a 0)])).length) Slot.unset).toArray = ls at hl ⊢
  replace hl : lv_has ls 1 [(0, .ref (a 0))] := hl
  show W zp l ze rm_X4_bottom zs zm ([.ref (a 0)] : List Value).toArray zb zt zc zs.heap [] 0 0 (MQ zb (rdL post) ([.ref (a 0)] : List Value).toArray zs 0 0 (fun _ => False)) (F0 zm 0 ls [])
  unfold wp_X4_bottom at h
  refine lv_aload_n hx hb dX4_bottom_0 rfl (lv_at hl 0 rfl) ?_
  refine va_get (D := D) (ci := 3) (v := .long bottom) (C := RX4) (T := TX4) (N := 2) hx hb hts hi_X4_bottom_X4 hown hK.1 hP 0 rfl rfl 1 (by decide) (hts _ k_X4_bottom_1) (fun _ h9 => h9) rfl dX4_bottom_1 ?_
  exact W.lret (v := bottom) hx hb hr (fun t ht hW => ⟨bottom, rfl, h, ht⟩) (fun q hq => absurd hq List.not_mem_nil) dX4_bottom_4

-- IronedQuarrels$Shelf.howManyThere()I
def wb_X5_howManyThere_4 (ns : Nat) (sizes : Nat → Int32) (post : Int32 → Prop) (K4 : (Int32) → (Int32) → Prop) (x1 : Int32) (x2 : Int32) : Prop :=
  ((nI ns) ≤ x2 → (post x1)) ∧ (¬ (nI ns) ≤ x2 → (wp_X5_isThere ns sizes x2 (fun r1 => (r1 = 0 → (K4 x1 (x2 + 1))) ∧ (¬ r1 = 0 → (K4 (x1 + 1) (x2 + 1))))))
def wl_X5_howManyThere_4 (ns : Nat) (sizes : Nat → Int32) (post : Int32 → Prop) : Nat → (Int32) → (Int32) → Prop
  | 0 => fun _ _ => False
  | zn + 1 => wb_X5_howManyThere_4 ns sizes post (wl_X5_howManyThere_4 ns sizes post zn)
def wp_X5_howManyThere (ns : Nat) (sizes : Nat → Int32) (post : Int32 → Prop) : Prop :=
  ∃ zn, wl_X5_howManyThere_4 ns sizes post zn (0 : Int32) (0 : Int32)
def rm_X5_howManyThere : Room := { frames := 1, cells := 0, slots := 0, locals := 21 }
theorem k_X5_howManyThere_1 : Cond.fieldLink RX5 15 "IronedQuarrels$Shelf" "sizes" "[I" ∈ wsX5_howManyThere := List.mem_of_getElem? (i := 1) (by decide +kernel)
theorem hi_X5_howManyThere_X5 : ∀ w ∈ wsX50, w ∈ wsX5_howManyThere := fun w h => List.mem_cons_of_mem _ (List.mem_append_right _ h)
set_option maxHeartbeats 4000000 in
set_option maxRecDepth 100000 in
theorem c_X5_howManyThere (l : Launch) (D : va_G) (ca : Nat → ClassId) (a : Nat → Nat) (ns : Nat) (nc : Nat) (width : Int32) (sizes : Nat → Int32) (cells : Nat → Int32)  (post : Int32 → Prop) (h : wp_X5_howManyThere ns sizes post) : Met l yX5_howManyThere wsX5_howManyThere rm_X5_howManyThere (PcX D ca [.ref (a 0)] (W_X5 ca a ns nc width sizes cells)) (rdI post) 0 0 (fun _ => False) := by
  refine Met.ofW (cc := cX5_howManyThere) (maxL := 3) (ret := (some .int)) (by decide) rfl ?_
  intro zp ze zs zm za zb zt zc z1 B hml hv
  obtain ⟨rfl, hP, hK⟩ := hv
  have hx := B.exec
  have hb := B.bytes
  have hr := B.returns
  have hts := atoms_spec (ws := wsX5_howManyThere) B.pre
  have hown : zs.vm.findClass RX5 = some zm.cls := findClass_of_methodNamed B.named
  have hlocks := B.notSynchronized
  have hl := lv_entry ([.ref (a 0)]) (n := 3) (Nat.le_of_ble_eq_true rfl)
  rw [lg_entry_eq]
  generalize (lg_sl ([.ref (a 0)]) ++ List.replicate (3 - (lg_sl ([.ref (a 0)])).length) Slot.unset).toArray = ls at hl ⊢
  replace hl : lv_has ls 3 [(0, .ref (a 0))] := hl
  show W zp l ze rm_X5_howManyThere zs zm ([.ref (a 0)] : List Value).toArray zb zt zc zs.heap [] 0 0 (MQ zb (rdI post) ([.ref (a 0)] : List Value).toArray zs 0 0 (fun _ => False)) (F0 zm 0 ls [])
  have w_4 : ∀ (zn : Nat) (x1 : Int32) (x2 : Int32), wl_X5_howManyThere_4 ns sizes post zn x1 x2 → ∀ ls : Array Slot, lv_has ls 3 [(0, .ref (a 0)), (1, .int x1), (2, .int x2)] → W zp l ze rm_X5_howManyThere zs zm ([.ref (a 0)] : List Value).toArray zb zt zc zs.heap [] 0 0 (MQ zb (rdI post) ([.ref (a 0)] : List Value).toArray zs 0 0 (fun _ => False)) (F0 zm 4 ls []) := by
    intro zn
    induction zn with
    | zero => intro x1 x2 h; exact h.elim
    | succ zn ih4 =>
      intro x1 x2 h ls hl
      replace h : wb_X5_howManyThere_4 ns sizes post (wl_X5_howManyThere_4 ns sizes post zn) x1 x2 := h
      unfold wb_X5_howManyThere_4 at h
      refine lv_iload_n hx hb dX5_howManyThere_4 rfl (lv_at hl 2 rfl) ?_
      refine lv_aload_n hx hb dX5_howManyThere_5 rfl (lv_at hl 0 rfl) ?_
      refine va_get (D := D) (ci := 4) (v := .ref (a 1)) (C := RX5) (T := TX5) (N := 3) hx hb hts hi_X5_howManyThere_X5 hown hK.1 hP 0 rfl rfl 1 (by decide) (hts _ k_X5_howManyThere_1) (fun _ h9 => h9) rfl dX5_howManyThere_6 ?_
      refine x_alen (v := nI ns) hx hb hK hP 1 rfl rfl dX5_howManyThere_9 ?_
      refine lv_icmp_ge (tgt := 30) hx hb dX5_howManyThere_10 (by decide) (fun hc => ?_) (fun hc => ?_)
      · have h := h.1 hc
        refine lv_iload_n hx hb dX5_howManyThere_30 rfl (lv_at hl 1 rfl) ?_
        exact W.iret (v := x1) hx hb hr (fun t ht hW => ⟨x1, rfl, h, ht⟩) (fun q hq => absurd hq List.not_mem_nil) dX5_howManyThere_31
      · have h := h.2 hc
        refine lv_aload_n hx hb dX5_howManyThere_13 rfl (lv_at hl 0 rfl) ?_
        refine lv_iload_n hx hb dX5_howManyThere_14 rfl (lv_at hl 2 rfl) ?_
        refine rd_callz (va_runV (As := [.int x2]) (rest := []) ⟨hx, hb, hml, hown, hts⟩ (c_X5_isThere l D ca a ns nc width sizes cells x2 _ h) (cwV 1 hts gX5_howManyThere_X5_isThere rfl rfl rfl (by decide +kernel) ⟨Nat.le_of_ble_eq_true rfl, Nat.le_of_ble_eq_true rfl⟩) (PcX.preV (q := (RX5, TX5, 3)) (ci := 4) (q0 := 0) hK hP rfl rfl hP) rfl rfl hl.1 rfl (lv_room (Nat.le_of_ble_eq_true rfl)) dX5_howManyThere_15 ⟨Nat.le_of_ble_eq_true rfl, Nat.le_of_ble_eq_true rfl⟩) (fun r1 h hz_r1 => ?_)
        try dsimp only at h
        refine lv_if_eq (tgt := 24) hx hb dX5_howManyThere_18 (by decide) (fun hc => ?_) (fun hc => ?_)
        · have h := h.1 hc
          refine lv_iinc (v := x2 + 1) (lv' := [(2, .int (x2 + 1)), (0, .ref (a 0)), (1, .int x1)]) hx hb dX5_howManyThere_24 hl (k := 2) rfl rfl (by decide) rfl (fun ls hl => ?_)
          refine lv_goto (tgt := 4) hx hb dX5_howManyThere_27 (by decide) ?_
          exact ih4 x1 (x2 + 1) h ls (lv_sub hl [1, 2, 0] rfl)
        · have h := h.2 hc
          refine lv_iinc (v := x1 + 1) (lv' := [(1, .int (x1 + 1)), (0, .ref (a 0)), (2, .int x2)]) hx hb dX5_howManyThere_21 hl (k := 1) rfl rfl (by decide) rfl (fun ls hl => ?_)
          refine lv_iinc (v := x2 + 1) (lv' := [(2, .int (x2 + 1)), (1, .int (x1 + 1)), (0, .ref (a 0))]) hx hb dX5_howManyThere_24 hl (k := 2) rfl rfl (by decide) rfl (fun ls hl => ?_)
          refine lv_goto (tgt := 4) hx hb dX5_howManyThere_27 (by decide) ?_
          exact ih4 (x1 + 1) (x2 + 1) h ls (lv_sub hl [2, 1, 0] rfl)
  unfold wp_X5_howManyThere at h
  refine lv_iconst (v := (0)) hx hb dX5_howManyThere_0 (by decide) ?_
  refine lv_istore_n (lv' := [(1, .int (0 : Int32)), (0, .ref (a 0))]) hx hb dX5_howManyThere_1 rfl hl (by decide) rfl (fun ls hl => ?_)
  refine lv_iconst (v := (0)) hx hb dX5_howManyThere_2 (by decide) ?_
  refine lv_istore_n (lv' := [(2, .int (0 : Int32)), (1, .int (0 : Int32)), (0, .ref (a 0))]) hx hb dX5_howManyThere_3 rfl hl (by decide) rfl (fun ls hl => ?_)
  obtain ⟨zn, h⟩ := h
  exact w_4  zn (0 : Int32) (0 : Int32) h ls (lv_sub hl [2, 1, 0] rfl)

-- IronedQuarrels$Tally.latest()I
def wp_X6_latest (latest : Int32) (post : Int32 → Prop) : Prop :=
  post latest
def rm_X6_latest : Room := { frames := 0, cells := 0, slots := 0, locals := 0 }
theorem k_X6_latest_1 : Cond.fieldLink RX6 15 "IronedQuarrels$Tally" "latest" "I" ∈ wsX6_latest := List.mem_of_getElem? (i := 1) (by decide +kernel)
theorem hi_X6_latest_X6 : ∀ w ∈ wsX60, w ∈ wsX6_latest := fun w h => List.mem_cons_of_mem _ (List.mem_append_right _ h)
set_option maxHeartbeats 4000000 in
set_option maxRecDepth 100000 in
theorem c_X6_latest (l : Launch) (D : va_G) (ca : Nat → ClassId) (a : Nat → Nat) (often : Nat → Int32) (latest : Int32)  (post : Int32 → Prop) (h : wp_X6_latest latest post) : Met l yX6_latest wsX6_latest rm_X6_latest (PcX D ca [.ref (a 0)] (W_X6 ca a often latest)) (rdI post) 0 0 (fun _ => False) := by
  refine Met.ofW (cc := cX6_latest) (maxL := 1) (ret := (some .int)) (by decide) rfl ?_
  intro zp ze zs zm za zb zt zc z1 B hml hv
  obtain ⟨rfl, hP, hK⟩ := hv
  have hx := B.exec
  have hb := B.bytes
  have hr := B.returns
  have hts := atoms_spec (ws := wsX6_latest) B.pre
  have hown : zs.vm.findClass RX6 = some zm.cls := findClass_of_methodNamed B.named
  have hlocks := B.notSynchronized
  have hl := lv_entry ([.ref (a 0)]) (n := 1) (Nat.le_of_ble_eq_true rfl)
  rw [lg_entry_eq]
  generalize (lg_sl ([.ref (a 0)]) ++ List.replicate (1 - (lg_sl ([.ref (a 0)])).length) Slot.unset).toArray = ls at hl ⊢
  replace hl : lv_has ls 1 [(0, .ref (a 0))] := hl
  show W zp l ze rm_X6_latest zs zm ([.ref (a 0)] : List Value).toArray zb zt zc zs.heap [] 0 0 (MQ zb (rdI post) ([.ref (a 0)] : List Value).toArray zs 0 0 (fun _ => False)) (F0 zm 0 ls [])
  unfold wp_X6_latest at h
  refine lv_aload_n hx hb dX6_latest_0 rfl (lv_at hl 0 rfl) ?_
  refine va_get (D := D) (ci := 5) (v := .int latest) (C := RX6) (T := TX6) (N := 2) hx hb hts hi_X6_latest_X6 hown hK.1 hP 0 rfl rfl 1 (by decide) (hts _ k_X6_latest_1) (fun _ h9 => h9) rfl dX6_latest_1 ?_
  exact W.iret (v := latest) hx hb hr (fun t ht hW => ⟨latest, rfl, h, ht⟩) (fun q hq => absurd hq List.not_mem_nil) dX6_latest_4

-- IronedQuarrels$Tally.howOften(I)I
def wp_X6_howOften (often : Nat → Int32) (f : Int32) (post : Int32 → Prop) : Prop :=
  vp_in f 6 ∧ post (often f.toNatClampNeg)
def rm_X6_howOften : Room := { frames := 0, cells := 0, slots := 0, locals := 0 }
theorem k_X6_howOften_1 : Cond.fieldLink RX6 9 "IronedQuarrels$Tally" "often" "[I" ∈ wsX6_howOften := List.mem_of_getElem? (i := 1) (by decide +kernel)
theorem hi_X6_howOften_X6 : ∀ w ∈ wsX60, w ∈ wsX6_howOften := fun w h => List.mem_cons_of_mem _ (List.mem_append_right _ h)
set_option maxHeartbeats 4000000 in
set_option maxRecDepth 100000 in
theorem c_X6_howOften (l : Launch) (D : va_G) (ca : Nat → ClassId) (a : Nat → Nat) (often : Nat → Int32) (latest : Int32) (f : Int32) (post : Int32 → Prop) (h : wp_X6_howOften often f post) : Met l yX6_howOften wsX6_howOften rm_X6_howOften (PcX D ca [.ref (a 0), .int f] (W_X6 ca a often latest)) (rdI post) 0 0 (fun _ => False) := by
  refine Met.ofW (cc := cX6_howOften) (maxL := 2) (ret := (some .int)) (by decide) rfl ?_
  intro zp ze zs zm za zb zt zc z1 B hml hv
  obtain ⟨rfl, hP, hK⟩ := hv
  have hx := B.exec
  have hb := B.bytes
  have hr := B.returns
  have hts := atoms_spec (ws := wsX6_howOften) B.pre
  have hown : zs.vm.findClass RX6 = some zm.cls := findClass_of_methodNamed B.named
  have hlocks := B.notSynchronized
  have hl := lv_entry ([.ref (a 0), .int f]) (n := 2) (Nat.le_of_ble_eq_true rfl)
  rw [lg_entry_eq]
  generalize (lg_sl ([.ref (a 0), .int f]) ++ List.replicate (2 - (lg_sl ([.ref (a 0), .int f])).length) Slot.unset).toArray = ls at hl ⊢
  replace hl : lv_has ls 2 [(0, .ref (a 0)), (1, .int f)] := hl
  show W zp l ze rm_X6_howOften zs zm ([.ref (a 0), .int f] : List Value).toArray zb zt zc zs.heap [] 0 0 (MQ zb (rdI post) ([.ref (a 0), .int f] : List Value).toArray zs 0 0 (fun _ => False)) (F0 zm 0 ls [])
  unfold wp_X6_howOften at h
  refine lv_aload_n hx hb dX6_howOften_0 rfl (lv_at hl 0 rfl) ?_
  refine va_get (D := D) (ci := 5) (v := .ref (a 1)) (C := RX6) (T := TX6) (N := 2) hx hb hts hi_X6_howOften_X6 hown hK.1 hP 0 rfl rfl 0 (by decide) (hts _ k_X6_howOften_1) (fun _ h9 => h9) rfl dX6_howOften_1 ?_
  refine lv_iload_n hx hb dX6_howOften_4 rfl (lv_at hl 1 rfl) ?_
  obtain ⟨hi, h⟩ := h
  refine x_iald (v := often f.toNatClampNeg) hx hb hK hP 1 rfl hi rfl dX6_howOften_5 ?_
  exact W.iret (v := often f.toNatClampNeg) hx hb hr (fun t ht hW => ⟨often f.toNatClampNeg, rfl, h, ht⟩) (fun q hq => absurd hq List.not_mem_nil) dX6_howOften_6

-- IronedQuarrels$Shelf.digestFrom(J)J
def wb_X5_digestFrom_33 (ns : Nat) (nc : Nat) (width : Int32) (sizes : Nat → Int32) (cells : Nat → Int32) (K5 : (Int64) → (Int32) → Prop) (K33 : (Int64) → (Int32) → (Int32) → Prop) (x3 : Int64) (x5 : Int32) (x6 : Int32) : Prop :=
  vp_in x5 ns ∧ ((sizes x5.toNatClampNeg) ≤ x6 → (K5 x3 (x5 + 1))) ∧ (¬ (sizes x5.toNatClampNeg) ≤ x6 → (wp_X5_cell nc width cells x5 x6 (fun r1 => K33 (((31 : Int64) * x3) + r1.toInt64) x5 (x6 + 1))))
def wl_X5_digestFrom_33 (ns : Nat) (nc : Nat) (width : Int32) (sizes : Nat → Int32) (cells : Nat → Int32) (K5 : (Int64) → (Int32) → Prop) : Nat → (Int64) → (Int32) → (Int32) → Prop
  | 0 => fun _ _ _ => False
  | zn + 1 => wb_X5_digestFrom_33 ns nc width sizes cells K5 (wl_X5_digestFrom_33 ns nc width sizes cells K5 zn)
def wb_X5_digestFrom_5 (ns : Nat) (nc : Nat) (width : Int32) (sizes : Nat → Int32) (cells : Nat → Int32) (post : Int64 → Prop) (K5 : (Int64) → (Int32) → Prop) (x3 : Int64) (x5 : Int32) : Prop :=
  ((nI ns) ≤ x5 → (post x3)) ∧ (¬ (nI ns) ≤ x5 → (vp_in x5 ns ∧ ∃ zn, wl_X5_digestFrom_33 ns nc width sizes cells K5 zn (((31 : Int64) * x3) + ((sizes x5.toNatClampNeg).toInt64)) x5 (0 : Int32)))
def wl_X5_digestFrom_5 (ns : Nat) (nc : Nat) (width : Int32) (sizes : Nat → Int32) (cells : Nat → Int32) (post : Int64 → Prop) : Nat → (Int64) → (Int32) → Prop
  | 0 => fun _ _ => False
  | zn + 1 => wb_X5_digestFrom_5 ns nc width sizes cells post (wl_X5_digestFrom_5 ns nc width sizes cells post zn)
def wp_X5_digestFrom (ns : Nat) (nc : Nat) (width : Int32) (sizes : Nat → Int32) (cells : Nat → Int32) (start : Int64) (post : Int64 → Prop) : Prop :=
  ∃ zn, wl_X5_digestFrom_5 ns nc width sizes cells post zn start (0 : Int32)
def rm_X5_digestFrom : Room := { frames := 1, cells := 0, slots := 0, locals := 22 }
theorem k_X5_digestFrom_1 : Cond.fieldLink RX5 15 "IronedQuarrels$Shelf" "sizes" "[I" ∈ wsX5_digestFrom := List.mem_of_getElem? (i := 1) (by decide +kernel)
theorem k_X5_digestFrom_2 : Cond.constantLong RX5 45 (31) ∈ wsX5_digestFrom := List.mem_of_getElem? (i := 2) (by decide +kernel)
theorem hi_X5_digestFrom_X5 : ∀ w ∈ wsX50, w ∈ wsX5_digestFrom := fun w h => List.mem_cons_of_mem _ (List.mem_append_right _ h)
set_option maxHeartbeats 4000000 in
set_option maxRecDepth 100000 in
theorem c_X5_digestFrom (l : Launch) (D : va_G) (ca : Nat → ClassId) (a : Nat → Nat) (ns : Nat) (nc : Nat) (width : Int32) (sizes : Nat → Int32) (cells : Nat → Int32) (start : Int64) (post : Int64 → Prop) (h : wp_X5_digestFrom ns nc width sizes cells start post) : Met l yX5_digestFrom wsX5_digestFrom rm_X5_digestFrom (PcX D ca [.ref (a 0), .long start] (W_X5 ca a ns nc width sizes cells)) (rdL post) 0 0 (fun _ => False) := by
  refine Met.ofW (cc := cX5_digestFrom) (maxL := 7) (ret := (some .long)) (by decide) rfl ?_
  intro zp ze zs zm za zb zt zc z1 B hml hv
  obtain ⟨rfl, hP, hK⟩ := hv
  have hx := B.exec
  have hb := B.bytes
  have hr := B.returns
  have hts := atoms_spec (ws := wsX5_digestFrom) B.pre
  have hown : zs.vm.findClass RX5 = some zm.cls := findClass_of_methodNamed B.named
  have hlocks := B.notSynchronized
  have hl := lv_entry ([.ref (a 0), .long start]) (n := 7) (Nat.le_of_ble_eq_true rfl)
  rw [lg_entry_eq]
  generalize (lg_sl ([.ref (a 0), .long start]) ++ List.replicate (7 - (lg_sl ([.ref (a 0), .long start])).length) Slot.unset).toArray = ls at hl ⊢
  replace hl : lv_has ls 7 [(0, .ref (a 0)), (1, .long start)] := hl
  show W zp l ze rm_X5_digestFrom zs zm ([.ref (a 0), .long start] : List Value).toArray zb zt zc zs.heap [] 0 0 (MQ zb (rdL post) ([.ref (a 0), .long start] : List Value).toArray zs 0 0 (fun _ => False)) (F0 zm 0 ls [])
  have w_33 : ∀ (K5 : (Int64) → (Int32) → Prop) (ih5 : ∀ (x3 : Int64) (x5 : Int32), K5 x3 x5 → ∀ ls : Array Slot, lv_has ls 7 [(0, .ref (a 0)), (3, .long x3), (5, .int x5)] → W zp l ze rm_X5_digestFrom zs zm ([.ref (a 0), .long start] : List Value).toArray zb zt zc zs.heap [] 0 0 (MQ zb (rdL post) ([.ref (a 0), .long start] : List Value).toArray zs 0 0 (fun _ => False)) (F0 zm 5 ls [])) (zn : Nat) (x3 : Int64) (x5 : Int32) (x6 : Int32), wl_X5_digestFrom_33 ns nc width sizes cells K5 zn x3 x5 x6 → ∀ ls : Array Slot, lv_has ls 7 [(0, .ref (a 0)), (3, .long x3), (5, .int x5), (6, .int x6)] → W zp l ze rm_X5_digestFrom zs zm ([.ref (a 0), .long start] : List Value).toArray zb zt zc zs.heap [] 0 0 (MQ zb (rdL post) ([.ref (a 0), .long start] : List Value).toArray zs 0 0 (fun _ => False)) (F0 zm 33 ls []) := by
    intro K5 ih5 zn
    induction zn with
    | zero => intro x3 x5 x6 h; exact h.elim
    | succ zn ih33 =>
      intro x3 x5 x6 h ls hl
      replace h : wb_X5_digestFrom_33 ns nc width sizes cells K5 (wl_X5_digestFrom_33 ns nc width sizes cells K5 zn) x3 x5 x6 := h
      unfold wb_X5_digestFrom_33 at h
      refine lv_iload hx hb dX5_digestFrom_33 (lv_at hl 3 rfl) ?_
      refine lv_aload_n hx hb dX5_digestFrom_35 rfl (lv_at hl 0 rfl) ?_
      refine va_get (D := D) (ci := 4) (v := .ref (a 1)) (C := RX5) (T := TX5) (N := 3) hx hb hts hi_X5_digestFrom_X5 hown hK.1 hP 0 rfl rfl 1 (by decide) (hts _ k_X5_digestFrom_1) (fun _ h9 => h9) rfl dX5_digestFrom_36 ?_
      refine lv_iload hx hb dX5_digestFrom_39 (lv_at hl 2 rfl) ?_
      obtain ⟨hi, h⟩ := h
      refine x_iald (v := sizes x5.toNatClampNeg) hx hb hK hP 1 rfl hi rfl dX5_digestFrom_41 ?_
      refine lv_icmp_ge (tgt := 67) hx hb dX5_digestFrom_42 (by decide) (fun hc => ?_) (fun hc => ?_)
      · have h := h.1 hc
        refine lv_iinc (v := x5 + 1) (lv' := [(5, .int (x5 + 1)), (0, .ref (a 0)), (3, .long x3), (6, .int x6)]) hx hb dX5_digestFrom_67 hl (k := 2) rfl rfl (by decide) rfl (fun ls hl => ?_)
        refine lv_goto (tgt := 5) hx hb dX5_digestFrom_70 (by decide) ?_
        exact ih5 x3 (x5 + 1) h ls (lv_sub hl [1, 2, 0] rfl)
      · have h := h.2 hc
        refine lv_ldc2 (v := (31)) hx hb hown (hts _ k_X5_digestFrom_2) dX5_digestFrom_45 ?_
        refine lv_lload_n hx hb dX5_digestFrom_48 rfl (lv_at hl 1 rfl) ?_
        refine lv_lmul hx hb dX5_digestFrom_49 ?_
        refine lv_aload_n hx hb dX5_digestFrom_50 rfl (lv_at hl 0 rfl) ?_
        refine lv_iload hx hb dX5_digestFrom_51 (lv_at hl 2 rfl) ?_
        refine lv_iload hx hb dX5_digestFrom_53 (lv_at hl 3 rfl) ?_
        refine rd_calli (va_runV (As := [.int x5, .int x6]) (rest := [.long ((31 : Int64) * x3)]) ⟨hx, hb, hml, hown, hts⟩ (c_X5_cell l D ca a ns nc width sizes cells x5 x6 _ h) (cwV 2 hts gX5_digestFrom_X5_cell rfl rfl rfl (by decide +kernel) ⟨Nat.le_of_ble_eq_true rfl, Nat.le_of_ble_eq_true rfl⟩) (PcX.preV (q := (RX5, TX5, 3)) (ci := 4) (q0 := 0) hK hP rfl rfl hP) rfl rfl hl.1 rfl (lv_room (Nat.le_of_ble_eq_true rfl)) dX5_digestFrom_55 ⟨Nat.le_of_ble_eq_true rfl, Nat.le_of_ble_eq_true rfl⟩) (fun r1 h => ?_)
        try dsimp only at h
        refine lv_i2l hx hb dX5_digestFrom_58 rfl ?_
        refine lv_ladd hx hb dX5_digestFrom_59 ?_
        refine lv_lstore_n (lv' := [(3, .long (((31 : Int64) * x3) + r1.toInt64)), (0, .ref (a 0)), (5, .int x5), (6, .int x6)]) hx hb dX5_digestFrom_60 rfl hl (by decide) rfl (fun ls hl => ?_)
        refine lv_iinc (v := x6 + 1) (lv' := [(6, .int (x6 + 1)), (3, .long (((31 : Int64) * x3) + r1.toInt64)), (0, .ref (a 0)), (5, .int x5)]) hx hb dX5_digestFrom_61 hl (k := 3) rfl rfl (by decide) rfl (fun ls hl => ?_)
        refine lv_goto (tgt := 33) hx hb dX5_digestFrom_64 (by decide) ?_
        exact ih33 (((31 : Int64) * x3) + r1.toInt64) x5 (x6 + 1) h ls (lv_sub hl [2, 1, 3, 0] rfl)
  have w_5 : ∀ (zn : Nat) (x3 : Int64) (x5 : Int32), wl_X5_digestFrom_5 ns nc width sizes cells post zn x3 x5 → ∀ ls : Array Slot, lv_has ls 7 [(0, .ref (a 0)), (3, .long x3), (5, .int x5)] → W zp l ze rm_X5_digestFrom zs zm ([.ref (a 0), .long start] : List Value).toArray zb zt zc zs.heap [] 0 0 (MQ zb (rdL post) ([.ref (a 0), .long start] : List Value).toArray zs 0 0 (fun _ => False)) (F0 zm 5 ls []) := by
    intro zn
    induction zn with
    | zero => intro x3 x5 h; exact h.elim
    | succ zn ih5 =>
      intro x3 x5 h ls hl
      replace h : wb_X5_digestFrom_5 ns nc width sizes cells post (wl_X5_digestFrom_5 ns nc width sizes cells post zn) x3 x5 := h
      unfold wb_X5_digestFrom_5 at h
      refine lv_iload hx hb dX5_digestFrom_5 (lv_at hl 2 rfl) ?_
      refine lv_aload_n hx hb dX5_digestFrom_7 rfl (lv_at hl 0 rfl) ?_
      refine va_get (D := D) (ci := 4) (v := .ref (a 1)) (C := RX5) (T := TX5) (N := 3) hx hb hts hi_X5_digestFrom_X5 hown hK.1 hP 0 rfl rfl 1 (by decide) (hts _ k_X5_digestFrom_1) (fun _ h9 => h9) rfl dX5_digestFrom_8 ?_
      refine x_alen (v := nI ns) hx hb hK hP 1 rfl rfl dX5_digestFrom_11 ?_
      refine lv_icmp_ge (tgt := 73) hx hb dX5_digestFrom_12 (by decide) (fun hc => ?_) (fun hc => ?_)
      · have h := h.1 hc
        refine lv_lload_n hx hb dX5_digestFrom_73 rfl (lv_at hl 1 rfl) ?_
        exact W.lret (v := x3) hx hb hr (fun t ht hW => ⟨x3, rfl, h, ht⟩) (fun q hq => absurd hq List.not_mem_nil) dX5_digestFrom_74
      · have h := h.2 hc
        refine lv_ldc2 (v := (31)) hx hb hown (hts _ k_X5_digestFrom_2) dX5_digestFrom_15 ?_
        refine lv_lload_n hx hb dX5_digestFrom_18 rfl (lv_at hl 1 rfl) ?_
        refine lv_lmul hx hb dX5_digestFrom_19 ?_
        refine lv_aload_n hx hb dX5_digestFrom_20 rfl (lv_at hl 0 rfl) ?_
        refine va_get (D := D) (ci := 4) (v := .ref (a 1)) (C := RX5) (T := TX5) (N := 3) hx hb hts hi_X5_digestFrom_X5 hown hK.1 hP 0 rfl rfl 1 (by decide) (hts _ k_X5_digestFrom_1) (fun _ h9 => h9) rfl dX5_digestFrom_21 ?_
        refine lv_iload hx hb dX5_digestFrom_24 (lv_at hl 2 rfl) ?_
        obtain ⟨hi, h⟩ := h
        refine x_iald (v := sizes x5.toNatClampNeg) hx hb hK hP 1 rfl hi rfl dX5_digestFrom_26 ?_
        refine lv_i2l hx hb dX5_digestFrom_27 rfl ?_
        refine lv_ladd hx hb dX5_digestFrom_28 ?_
        refine lv_lstore_n (lv' := [(3, .long (((31 : Int64) * x3) + ((sizes x5.toNatClampNeg).toInt64))), (0, .ref (a 0)), (5, .int x5)]) hx hb dX5_digestFrom_29 rfl hl (by decide) rfl (fun ls hl => ?_)
        refine lv_iconst (v := (0)) hx hb dX5_digestFrom_30 (by decide) ?_
        refine lv_istore (lv' := [(6, .int (0 : Int32)), (3, .long (((31 : Int64) * x3) + ((sizes x5.toNatClampNeg).toInt64))), (0, .ref (a 0)), (5, .int x5)]) hx hb dX5_digestFrom_31 hl (by decide) rfl (fun ls hl => ?_)
        obtain ⟨zn, h⟩ := h
        exact w_33 _ ih5 zn (((31 : Int64) * x3) + ((sizes x5.toNatClampNeg).toInt64)) x5 (0 : Int32) h ls (lv_sub hl [2, 1, 3, 0] rfl)
  unfold wp_X5_digestFrom at h
  refine lv_lload_n hx hb dX5_digestFrom_0 rfl (lv_at hl 1 rfl) ?_
  refine lv_lstore_n (lv' := [(3, .long start), (0, .ref (a 0)), (1, .long start)]) hx hb dX5_digestFrom_1 rfl hl (by decide) rfl (fun ls hl => ?_)
  refine lv_iconst (v := (0)) hx hb dX5_digestFrom_2 (by decide) ?_
  refine lv_istore (lv' := [(5, .int (0 : Int32)), (3, .long start), (0, .ref (a 0)), (1, .long start)]) hx hb dX5_digestFrom_3 hl (by decide) rfl (fun ls hl => ?_)
  obtain ⟨zn, h⟩ := h
  exact w_5  zn start (0 : Int32) h ls (lv_sub hl [2, 1, 0] rfl)
