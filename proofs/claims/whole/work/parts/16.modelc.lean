-- IronedQuarrelsModel.layOrders(I)V
def wb_X8_layOrders_142 (K48 : (Nat → Int32) → (Nat → Int64) → (Int32) → (Int32) → (Int32) → Prop) (costs : Nat → Int32) (ways : Nat → Int64) (x2 : Int32) (x3 : Int32) (x4 : Int32) (x5 : Int32) (s0 : Int32) (s1 : Int32) : Prop :=
  vp_in s1 4096 ∧ vp_in x3 4096 ∧ vp_in x5 4096 ∧ vp_in x3 4096 ∧ K48 (upd costs (s1.toNatClampNeg) s0) (vp_updL ways (x3.toNatClampNeg) ((ways x3.toNatClampNeg) + (ways x5.toNatClampNeg))) x2 x3 (x4 + 1)
def wb_X8_layOrders_98 (now : Nat → Int32) (K48 : (Nat → Int32) → (Nat → Int64) → (Int32) → (Int32) → (Int32) → Prop) (costs : Nat → Int32) (ways : Nat → Int64) (x2 : Int32) (x3 : Int32) (x4 : Int32) (x5 : Int32) : Prop :=
  wp_X8_price now x4 x3 (fun r2 => vp_in x5 4096 ∧ vp_in x3 4096 ∧ ((costs x3.toNatClampNeg) ≤ (r2 + (costs x5.toNatClampNeg)) → (vp_in x3 4096 ∧ wb_X8_layOrders_142 K48 costs ways x2 x3 x4 x5 (costs x3.toNatClampNeg) x3)) ∧ (¬ (costs x3.toNatClampNeg) ≤ (r2 + (costs x5.toNatClampNeg)) → (wb_X8_layOrders_142 K48 costs ways x2 x3 x4 x5 (r2 + (costs x5.toNatClampNeg)) x3)))
def wb_X8_layOrders_48 (now : Nat → Int32) (last : Int32) (K9 : (Nat → Int32) → (Nat → Int64) → (Int32) → (Int32) → Prop) (K48 : (Nat → Int32) → (Nat → Int64) → (Int32) → (Int32) → (Int32) → Prop) (costs : Nat → Int32) (ways : Nat → Int64) (x2 : Int32) (x3 : Int32) (x4 : Int32) : Prop :=
  ((now 0) ≤ x4 → (K9 costs ways x2 (x3 + 1))) ∧ (¬ (now 0) ≤ x4 → ((¬ (x3 &&& (x2 ^^^ (-1 : Int32))) = 0 → (K9 costs ways x2 (x3 + 1))) ∧ ((x3 &&& (x2 ^^^ (-1 : Int32))) = 0 → (wp_X8_mayBe now x4 x3 (fun r1 => (r1 = 0 → (K48 costs ways x2 x3 (x4 + 1))) ∧ (¬ r1 = 0 → ((¬ x4 = last → (wb_X8_layOrders_98 now K48 costs ways x2 x3 x4 (x3 &&& (((1 : Int32) <<< (x4 &&& 31)) ^^^ (-1 : Int32))))) ∧ (x4 = last → ((¬ (x3 &&& (((1 : Int32) <<< (x4 &&& 31)) ^^^ (-1 : Int32))) = 0 → (K48 costs ways x2 x3 (x4 + 1))) ∧ ((x3 &&& (((1 : Int32) <<< (x4 &&& 31)) ^^^ (-1 : Int32))) = 0 → (wb_X8_layOrders_98 now K48 costs ways x2 x3 x4 (x3 &&& (((1 : Int32) <<< (x4 &&& 31)) ^^^ (-1 : Int32))))))))))))))
def wl_X8_layOrders_48 (now : Nat → Int32) (last : Int32) (K9 : (Nat → Int32) → (Nat → Int64) → (Int32) → (Int32) → Prop) : Nat → (Nat → Int32) → (Nat → Int64) → (Int32) → (Int32) → (Int32) → Prop
  | 0 => fun _ _ _ _ _ => False
  | zn + 1 => wb_X8_layOrders_48 now last K9 (wl_X8_layOrders_48 now last K9 zn)
def wb_X8_layOrders_29 (now : Nat → Int32) (last : Int32) (K9 : (Nat → Int32) → (Nat → Int64) → (Int32) → (Int32) → Prop) (costs : Nat → Int32) (ways : Nat → Int64) (x2 : Int32) (x3 : Int32) (s0 : Int32) (s1 : Int32) : Prop :=
  vp_in s1 4096 ∧ (¬ x3 = 0 → (vp_in x3 4096 ∧ ∃ zn, wl_X8_layOrders_48 now last K9 zn (upd costs (s1.toNatClampNeg) s0) (vp_updL ways (x3.toNatClampNeg) (0 : Int64)) x2 x3 (0 : Int32))) ∧ (x3 = 0 → (vp_in x3 4096 ∧ ∃ zn, wl_X8_layOrders_48 now last K9 zn (upd costs (s1.toNatClampNeg) s0) (vp_updL ways (x3.toNatClampNeg) (1 : Int64)) x2 x3 (0 : Int32)))
def wb_X8_layOrders_9 (now : Nat → Int32) (last : Int32) (post : (Nat → Int32) → (Nat → Int64) → Prop) (K9 : (Nat → Int32) → (Nat → Int64) → (Int32) → (Int32) → Prop) (costs : Nat → Int32) (ways : Nat → Int64) (x2 : Int32) (x3 : Int32) : Prop :=
  (x2 < x3 → (post costs ways)) ∧ (¬ x2 < x3 → ((¬ x3 = 0 → (wb_X8_layOrders_29 now last K9 costs ways x2 x3 (1000000 : Int32) x3)) ∧ (x3 = 0 → (wb_X8_layOrders_29 now last K9 costs ways x2 x3 (0 : Int32) x3))))
def wl_X8_layOrders_9 (now : Nat → Int32) (last : Int32) (post : (Nat → Int32) → (Nat → Int64) → Prop) : Nat → (Nat → Int32) → (Nat → Int64) → (Int32) → (Int32) → Prop
  | 0 => fun _ _ _ _ => False
  | zn + 1 => wb_X8_layOrders_9 now last post (wl_X8_layOrders_9 now last post zn)
def wp_X8_layOrders (now : Nat → Int32) (costs : Nat → Int32) (ways : Nat → Int64) (last : Int32) (post : (Nat → Int32) → (Nat → Int64) → Prop) : Prop :=
  ∃ zn, wl_X8_layOrders_9 now last post zn costs ways (now 2) (0 : Int32)
def rm_X8_layOrders : Room := { frames := 3, cells := 0, slots := 0, locals := 70 }
theorem k_X8_layOrders_1 : Cond.fieldLink RX8 22 "IronedQuarrelsModel" "now" "[I" ∈ wsX8_layOrders := List.mem_of_getElem? (i := 1) (by decide +kernel)
theorem k_X8_layOrders_2 : Cond.fieldLink RX8 42 "IronedQuarrelsModel" "costs" "[I" ∈ wsX8_layOrders := List.mem_of_getElem? (i := 2) (by decide +kernel)
theorem k_X8_layOrders_3 : Cond.constant RX8 173 (1000000) ∈ wsX8_layOrders := List.mem_of_getElem? (i := 3) (by decide +kernel)
theorem k_X8_layOrders_4 : Cond.fieldLink RX8 45 "IronedQuarrelsModel" "ways" "[J" ∈ wsX8_layOrders := List.mem_of_getElem? (i := 4) (by decide +kernel)
theorem hi_X8_layOrders_X8 : ∀ w ∈ wsX80, w ∈ wsX8_layOrders := fun w h => List.mem_cons_of_mem _ (List.mem_append_right _ h)
set_option maxHeartbeats 4000000 in
set_option maxRecDepth 100000 in
theorem c_X8_layOrders (l : Launch) (D : va_G) (ca : Nat → ClassId) (a : Nat → Nat) (rowSizes : Nat → Int32) (rows : Nat → Int32) (textSizes : Nat → Int32) (texts : Nat → Int32) (now : Nat → Int32) (keeps : Nat → Int32) (kept : Nat → Int32) (asked : Int32) (upper : Int64) (lower : Int64) (finding : Int32) (findings : Nat → Int32) (read : Nat → Int32) (at_ : Int32) (costs : Nat → Int32) (ways : Nat → Int64) (reach : Nat → Int32) (last : Int32) (post : (Nat → Int32) → (Nat → Int64) → Prop) (hd : va_D (fun _ => True) (W_X8 ca a rowSizes rows textSizes texts now keeps kept asked upper lower finding findings read at_ costs ways reach)) (h : wp_X8_layOrders now costs ways last post) : Met l yX8_layOrders wsX8_layOrders rm_X8_layOrders (PcX D ca [.ref (a 0), .int last] (W_X8 ca a rowSizes rows textSizes texts now keeps kept asked upper lower finding findings read at_ costs ways reach)) (wrV (S := (Nat → Int32) × (Nat → Int64)) D (W_X8 ca a rowSizes rows textSizes texts now keeps kept asked upper lower finding findings read at_ costs ways reach) (fun zu => W_X8 ca a rowSizes rows textSizes texts now keeps kept asked upper lower finding findings read at_ zu.1 zu.2 reach) (fun zu => post zu.1 zu.2)) 0 0 (adr (W_X8 ca a rowSizes rows textSizes texts now keeps kept asked upper lower finding findings read at_ costs ways reach)) := by
  refine Met.ofW (cc := cX8_layOrders) (maxL := 7) (ret := none) (by decide) rfl ?_
  intro zp ze zs zm za zb zt zc z1 B hml hv
  obtain ⟨rfl, hP, hK⟩ := hv
  have hx := B.exec
  have hb := B.bytes
  have hr := B.returns
  have hts := atoms_spec (ws := wsX8_layOrders) B.pre
  have hown : zs.vm.findClass RX8 = some zm.cls := findClass_of_methodNamed B.named
  have hlocks := B.notSynchronized
  have hD : va_D (adr (W_X8 ca a rowSizes rows textSizes texts now keeps kept asked upper lower finding findings read at_ costs ways reach)) (W_X8 ca a rowSizes rows textSizes texts now keeps kept asked upper lower finding findings read at_ costs ways reach) := hd.adr
  have hS : va_S (adr (W_X8 ca a rowSizes rows textSizes texts now keeps kept asked upper lower finding findings read at_ costs ways reach)) zs.heap zs.heap [] := va_S.rf
  have hl := lv_entry ([.ref (a 0), .int last]) (n := 7) (Nat.le_of_ble_eq_true rfl)
  rw [lg_entry_eq]
  generalize (lg_sl ([.ref (a 0), .int last]) ++ List.replicate (7 - (lg_sl ([.ref (a 0), .int last])).length) Slot.unset).toArray = ls at hl ⊢
  replace hl : lv_has ls 7 [(0, .ref (a 0)), (1, .int last)] := hl
  show W zp l ze rm_X8_layOrders zs zm ([.ref (a 0), .int last] : List Value).toArray zb zt zc zs.heap [] 0 0 (MQ zb (wrV (S := (Nat → Int32) × (Nat → Int64)) D (W_X8 ca a rowSizes rows textSizes texts now keeps kept asked upper lower finding findings read at_ costs ways reach) (fun zu => W_X8 ca a rowSizes rows textSizes texts now keeps kept asked upper lower finding findings read at_ zu.1 zu.2 reach) (fun zu => post zu.1 zu.2)) ([.ref (a 0), .int last] : List Value).toArray zs 0 0 (adr (W_X8 ca a rowSizes rows textSizes texts now keeps kept asked upper lower finding findings read at_ costs ways reach))) (F0 zm 0 ls [])
  have w_142 : ∀ (K48 : (Nat → Int32) → (Nat → Int64) → (Int32) → (Int32) → (Int32) → Prop) (ih48 : ∀ (costs : Nat → Int32) (ways : Nat → Int64) (x2 : Int32) (x3 : Int32) (x4 : Int32), K48 costs ways x2 x3 x4 → ∀ (H : Heap) (locs : List Loc), va_P D vwCl (W_X8 ca a rowSizes rows textSizes texts now keeps kept asked upper lower finding findings read at_ costs ways reach) H → va_D (adr (W_X8 ca a rowSizes rows textSizes texts now keeps kept asked upper lower finding findings read at_ costs ways reach)) (W_X8 ca a rowSizes rows textSizes texts now keeps kept asked upper lower finding findings read at_ costs ways reach) → va_S (adr (W_X8 ca a rowSizes rows textSizes texts now keeps kept asked upper lower finding findings read at_ costs ways reach)) zs.heap H locs → ∀ ls : Array Slot, lv_has ls 7 [(0, .ref (a 0)), (1, .int last), (2, .int x2), (3, .int x3), (4, .int x4)] → W zp l ze rm_X8_layOrders zs zm ([.ref (a 0), .int last] : List Value).toArray zb zt zc H locs 0 0 (MQ zb (wrV (S := (Nat → Int32) × (Nat → Int64)) D (W_X8 ca a rowSizes rows textSizes texts now keeps kept asked upper lower finding findings read at_ costs ways reach) (fun zu => W_X8 ca a rowSizes rows textSizes texts now keeps kept asked upper lower finding findings read at_ zu.1 zu.2 reach) (fun zu => post zu.1 zu.2)) ([.ref (a 0), .int last] : List Value).toArray zs 0 0 (adr (W_X8 ca a rowSizes rows textSizes texts now keeps kept asked upper lower finding findings read at_ costs ways reach))) (F0 zm 48 ls [])) (costs : Nat → Int32) (ways : Nat → Int64) (x2 : Int32) (x3 : Int32) (x4 : Int32) (x5 : Int32) (s0 : Int32) (s1 : Int32), wb_X8_layOrders_142 K48 costs ways x2 x3 x4 x5 s0 s1 → ∀ (H : Heap) (locs : List Loc), va_P D vwCl (W_X8 ca a rowSizes rows textSizes texts now keeps kept asked upper lower finding findings read at_ costs ways reach) H → va_D (adr (W_X8 ca a rowSizes rows textSizes texts now keeps kept asked upper lower finding findings read at_ costs ways reach)) (W_X8 ca a rowSizes rows textSizes texts now keeps kept asked upper lower finding findings read at_ costs ways reach) → va_S (adr (W_X8 ca a rowSizes rows textSizes texts now keeps kept asked upper lower finding findings read at_ costs ways reach)) zs.heap H locs → ∀ ls : Array Slot, lv_has ls 7 [(0, .ref (a 0)), (1, .int last), (2, .int x2), (3, .int x3), (4, .int x4), (5, .int x5)] → W zp l ze rm_X8_layOrders zs zm ([.ref (a 0), .int last] : List Value).toArray zb zt zc H locs 0 0 (MQ zb (wrV (S := (Nat → Int32) × (Nat → Int64)) D (W_X8 ca a rowSizes rows textSizes texts now keeps kept asked upper lower finding findings read at_ costs ways reach) (fun zu => W_X8 ca a rowSizes rows textSizes texts now keeps kept asked upper lower finding findings read at_ zu.1 zu.2 reach) (fun zu => post zu.1 zu.2)) ([.ref (a 0), .int last] : List Value).toArray zs 0 0 (adr (W_X8 ca a rowSizes rows textSizes texts now keeps kept asked upper lower finding findings read at_ costs ways reach))) (F0 zm 142 ls [.int s0, .int s1, .ref (a 10)]) := by
    intro K48 ih48 costs ways x2 x3 x4 x5 s0 s1 h H locs hP hD hS ls hl
    unfold wb_X8_layOrders_142 at h
    obtain ⟨hi, h⟩ := h
    refine x_iast (ws' := W_X8 ca a rowSizes rows textSizes texts now keeps kept asked upper lower finding findings read at_ (upd costs (s1.toNatClampNeg) s0) ways reach) hx hb hK hP hD hS 10 rfl hi (k := (s1.toNatClampNeg)) rfl rfl dX8_layOrders_142 (fun H locs hP hD hS => ?_)
    refine lv_aload_n hx hb dX8_layOrders_143 rfl (lv_at hl 0 rfl) ?_
    refine va_get (D := D) (ci := 7) (v := .ref (a 11)) (C := RX8) (T := TX8) (N := 17) hx hb hts hi_X8_layOrders_X8 hown hK.1 hP 0 rfl rfl 15 (by decide) (hts _ k_X8_layOrders_4) (fun _ h9 => h9) rfl dX8_layOrders_144 ?_
    refine lv_iload_n hx hb dX8_layOrders_147 rfl (lv_at hl 3 rfl) ?_
    refine lv_dup2_11 hx hb dX8_layOrders_148 rfl rfl ?_
    obtain ⟨hi, h⟩ := h
    refine x_lald (v := ways x3.toNatClampNeg) hx hb hK hP 11 rfl hi rfl dX8_layOrders_149 ?_
    refine lv_aload_n hx hb dX8_layOrders_150 rfl (lv_at hl 0 rfl) ?_
    refine va_get (D := D) (ci := 7) (v := .ref (a 11)) (C := RX8) (T := TX8) (N := 17) hx hb hts hi_X8_layOrders_X8 hown hK.1 hP 0 rfl rfl 15 (by decide) (hts _ k_X8_layOrders_4) (fun _ h9 => h9) rfl dX8_layOrders_151 ?_
    refine lv_iload hx hb dX8_layOrders_154 (lv_at hl 5 rfl) ?_
    obtain ⟨hi, h⟩ := h
    refine x_lald (v := ways x5.toNatClampNeg) hx hb hK hP 11 rfl hi rfl dX8_layOrders_156 ?_
    refine lv_ladd hx hb dX8_layOrders_157 ?_
    obtain ⟨hi, h⟩ := h
    refine x_last (ws' := W_X8 ca a rowSizes rows textSizes texts now keeps kept asked upper lower finding findings read at_ (upd costs (s1.toNatClampNeg) s0) (vp_updL ways (x3.toNatClampNeg) ((ways x3.toNatClampNeg) + (ways x5.toNatClampNeg))) reach) hx hb hK hP hD hS 11 rfl hi (k := (x3.toNatClampNeg)) rfl rfl dX8_layOrders_158 (fun H locs hP hD hS => ?_)
    refine lv_iinc (v := x4 + 1) (lv' := [(4, .int (x4 + 1)), (0, .ref (a 0)), (1, .int last), (2, .int x2), (3, .int x3), (5, .int x5)]) hx hb dX8_layOrders_159 hl (k := 4) rfl rfl (by decide) rfl (fun ls hl => ?_)
    refine lv_goto (tgt := 48) hx hb dX8_layOrders_162 (by decide) ?_
    exact ih48 (upd costs (s1.toNatClampNeg) s0) (vp_updL ways (x3.toNatClampNeg) ((ways x3.toNatClampNeg) + (ways x5.toNatClampNeg))) x2 x3 (x4 + 1) h _ _ hP hD hS ls (lv_sub hl [1, 2, 3, 4, 0] rfl)
  have w_98 : ∀ (K48 : (Nat → Int32) → (Nat → Int64) → (Int32) → (Int32) → (Int32) → Prop) (ih48 : ∀ (costs : Nat → Int32) (ways : Nat → Int64) (x2 : Int32) (x3 : Int32) (x4 : Int32), K48 costs ways x2 x3 x4 → ∀ (H : Heap) (locs : List Loc), va_P D vwCl (W_X8 ca a rowSizes rows textSizes texts now keeps kept asked upper lower finding findings read at_ costs ways reach) H → va_D (adr (W_X8 ca a rowSizes rows textSizes texts now keeps kept asked upper lower finding findings read at_ costs ways reach)) (W_X8 ca a rowSizes rows textSizes texts now keeps kept asked upper lower finding findings read at_ costs ways reach) → va_S (adr (W_X8 ca a rowSizes rows textSizes texts now keeps kept asked upper lower finding findings read at_ costs ways reach)) zs.heap H locs → ∀ ls : Array Slot, lv_has ls 7 [(0, .ref (a 0)), (1, .int last), (2, .int x2), (3, .int x3), (4, .int x4)] → W zp l ze rm_X8_layOrders zs zm ([.ref (a 0), .int last] : List Value).toArray zb zt zc H locs 0 0 (MQ zb (wrV (S := (Nat → Int32) × (Nat → Int64)) D (W_X8 ca a rowSizes rows textSizes texts now keeps kept asked upper lower finding findings read at_ costs ways reach) (fun zu => W_X8 ca a rowSizes rows textSizes texts now keeps kept asked upper lower finding findings read at_ zu.1 zu.2 reach) (fun zu => post zu.1 zu.2)) ([.ref (a 0), .int last] : List Value).toArray zs 0 0 (adr (W_X8 ca a rowSizes rows textSizes texts now keeps kept asked upper lower finding findings read at_ costs ways reach))) (F0 zm 48 ls [])) (costs : Nat → Int32) (ways : Nat → Int64) (x2 : Int32) (x3 : Int32) (x4 : Int32) (x5 : Int32), wb_X8_layOrders_98 now K48 costs ways x2 x3 x4 x5 → ∀ (H : Heap) (locs : List Loc), va_P D vwCl (W_X8 ca a rowSizes rows textSizes texts now keeps kept asked upper lower finding findings read at_ costs ways reach) H → va_D (adr (W_X8 ca a rowSizes rows textSizes texts now keeps kept asked upper lower finding findings read at_ costs ways reach)) (W_X8 ca a rowSizes rows textSizes texts now keeps kept asked upper lower finding findings read at_ costs ways reach) → va_S (adr (W_X8 ca a rowSizes rows textSizes texts now keeps kept asked upper lower finding findings read at_ costs ways reach)) zs.heap H locs → ∀ ls : Array Slot, lv_has ls 7 [(0, .ref (a 0)), (1, .int last), (2, .int x2), (3, .int x3), (4, .int x4), (5, .int x5)] → W zp l ze rm_X8_layOrders zs zm ([.ref (a 0), .int last] : List Value).toArray zb zt zc H locs 0 0 (MQ zb (wrV (S := (Nat → Int32) × (Nat → Int64)) D (W_X8 ca a rowSizes rows textSizes texts now keeps kept asked upper lower finding findings read at_ costs ways reach) (fun zu => W_X8 ca a rowSizes rows textSizes texts now keeps kept asked upper lower finding findings read at_ zu.1 zu.2 reach) (fun zu => post zu.1 zu.2)) ([.ref (a 0), .int last] : List Value).toArray zs 0 0 (adr (W_X8 ca a rowSizes rows textSizes texts now keeps kept asked upper lower finding findings read at_ costs ways reach))) (F0 zm 98 ls []) := by
    intro K48 ih48 costs ways x2 x3 x4 x5 h H locs hP hD hS ls hl
    unfold wb_X8_layOrders_98 at h
    refine lv_aload_n hx hb dX8_layOrders_98 rfl (lv_at hl 0 rfl) ?_
    refine lv_iload hx hb dX8_layOrders_99 (lv_at hl 4 rfl) ?_
    refine lv_iload_n hx hb dX8_layOrders_101 rfl (lv_at hl 3 rfl) ?_
    refine rd_calli (va_runV (As := [.int x4, .int x3]) (rest := []) ⟨hx, hb, hml, hown, hts⟩ (c_X8_price l D ca a rowSizes rows textSizes texts now keeps kept asked upper lower finding findings read at_ costs ways reach x4 x3 _ h) (cwV 2 hts gX8_layOrders_X8_price rfl rfl rfl (by decide +kernel) ⟨Nat.le_of_ble_eq_true rfl, Nat.le_of_ble_eq_true rfl⟩) (PcX.preV (q := (RX8, TX8, 17)) (ci := 7) (q0 := 0) hK hP rfl rfl hP) rfl rfl hl.1 rfl (lv_room (Nat.le_of_ble_eq_true rfl)) dX8_layOrders_102 ⟨Nat.le_of_ble_eq_true rfl, Nat.le_of_ble_eq_true rfl⟩) (fun r2 h => ?_)
    try dsimp only at h
    refine lv_aload_n hx hb dX8_layOrders_105 rfl (lv_at hl 0 rfl) ?_
    refine va_get (D := D) (ci := 7) (v := .ref (a 10)) (C := RX8) (T := TX8) (N := 17) hx hb hts hi_X8_layOrders_X8 hown hK.1 hP 0 rfl rfl 14 (by decide) (hts _ k_X8_layOrders_2) (fun _ h9 => h9) rfl dX8_layOrders_106 ?_
    refine lv_iload hx hb dX8_layOrders_109 (lv_at hl 5 rfl) ?_
    obtain ⟨hi, h⟩ := h
    refine x_iald (v := costs x5.toNatClampNeg) hx hb hK hP 10 rfl hi rfl dX8_layOrders_111 ?_
    refine lv_iadd hx hb dX8_layOrders_112 ?_
    refine lv_istore (lv' := [(6, .int (r2 + (costs x5.toNatClampNeg))), (0, .ref (a 0)), (1, .int last), (2, .int x2), (3, .int x3), (4, .int x4), (5, .int x5)]) hx hb dX8_layOrders_113 hl (by decide) rfl (fun ls hl => ?_)
    refine lv_aload_n hx hb dX8_layOrders_115 rfl (lv_at hl 1 rfl) ?_
    refine va_get (D := D) (ci := 7) (v := .ref (a 10)) (C := RX8) (T := TX8) (N := 17) hx hb hts hi_X8_layOrders_X8 hown hK.1 hP 0 rfl rfl 14 (by decide) (hts _ k_X8_layOrders_2) (fun _ h9 => h9) rfl dX8_layOrders_116 ?_
    refine lv_iload_n hx hb dX8_layOrders_119 rfl (lv_at hl 4 rfl) ?_
    refine lv_iload hx hb dX8_layOrders_120 (lv_at hl 0 rfl) ?_
    refine lv_aload_n hx hb dX8_layOrders_122 rfl (lv_at hl 1 rfl) ?_
    refine va_get (D := D) (ci := 7) (v := .ref (a 10)) (C := RX8) (T := TX8) (N := 17) hx hb hts hi_X8_layOrders_X8 hown hK.1 hP 0 rfl rfl 14 (by decide) (hts _ k_X8_layOrders_2) (fun _ h9 => h9) rfl dX8_layOrders_123 ?_
    refine lv_iload_n hx hb dX8_layOrders_126 rfl (lv_at hl 4 rfl) ?_
    obtain ⟨hi, h⟩ := h
    refine x_iald (v := costs x3.toNatClampNeg) hx hb hK hP 10 rfl hi rfl dX8_layOrders_127 ?_
    refine lv_icmp_ge (tgt := 136) hx hb dX8_layOrders_128 (by decide) (fun hc => ?_) (fun hc => ?_)
    · have h := h.1 hc
      refine lv_aload_n hx hb dX8_layOrders_136 rfl (lv_at hl 1 rfl) ?_
      refine va_get (D := D) (ci := 7) (v := .ref (a 10)) (C := RX8) (T := TX8) (N := 17) hx hb hts hi_X8_layOrders_X8 hown hK.1 hP 0 rfl rfl 14 (by decide) (hts _ k_X8_layOrders_2) (fun _ h9 => h9) rfl dX8_layOrders_137 ?_
      refine lv_iload_n hx hb dX8_layOrders_140 rfl (lv_at hl 4 rfl) ?_
      obtain ⟨hi, h⟩ := h
      refine x_iald (v := costs x3.toNatClampNeg) hx hb hK hP 10 rfl hi rfl dX8_layOrders_141 ?_
      exact w_142 _ ih48 costs ways x2 x3 x4 x5 (costs x3.toNatClampNeg) x3 h _ _ hP hD hS ls (lv_sub hl [1, 2, 3, 4, 5, 6] rfl)
    · have h := h.2 hc
      refine lv_iload hx hb dX8_layOrders_131 (lv_at hl 0 rfl) ?_
      refine lv_goto (tgt := 142) hx hb dX8_layOrders_133 (by decide) ?_
      exact w_142 _ ih48 costs ways x2 x3 x4 x5 (r2 + (costs x5.toNatClampNeg)) x3 h _ _ hP hD hS ls (lv_sub hl [1, 2, 3, 4, 5, 6] rfl)
  have w_48 : ∀ (K9 : (Nat → Int32) → (Nat → Int64) → (Int32) → (Int32) → Prop) (ih9 : ∀ (costs : Nat → Int32) (ways : Nat → Int64) (x2 : Int32) (x3 : Int32), K9 costs ways x2 x3 → ∀ (H : Heap) (locs : List Loc), va_P D vwCl (W_X8 ca a rowSizes rows textSizes texts now keeps kept asked upper lower finding findings read at_ costs ways reach) H → va_D (adr (W_X8 ca a rowSizes rows textSizes texts now keeps kept asked upper lower finding findings read at_ costs ways reach)) (W_X8 ca a rowSizes rows textSizes texts now keeps kept asked upper lower finding findings read at_ costs ways reach) → va_S (adr (W_X8 ca a rowSizes rows textSizes texts now keeps kept asked upper lower finding findings read at_ costs ways reach)) zs.heap H locs → ∀ ls : Array Slot, lv_has ls 7 [(0, .ref (a 0)), (1, .int last), (2, .int x2), (3, .int x3)] → W zp l ze rm_X8_layOrders zs zm ([.ref (a 0), .int last] : List Value).toArray zb zt zc H locs 0 0 (MQ zb (wrV (S := (Nat → Int32) × (Nat → Int64)) D (W_X8 ca a rowSizes rows textSizes texts now keeps kept asked upper lower finding findings read at_ costs ways reach) (fun zu => W_X8 ca a rowSizes rows textSizes texts now keeps kept asked upper lower finding findings read at_ zu.1 zu.2 reach) (fun zu => post zu.1 zu.2)) ([.ref (a 0), .int last] : List Value).toArray zs 0 0 (adr (W_X8 ca a rowSizes rows textSizes texts now keeps kept asked upper lower finding findings read at_ costs ways reach))) (F0 zm 9 ls [])) (zn : Nat) (costs : Nat → Int32) (ways : Nat → Int64) (x2 : Int32) (x3 : Int32) (x4 : Int32), wl_X8_layOrders_48 now last K9 zn costs ways x2 x3 x4 → ∀ (H : Heap) (locs : List Loc), va_P D vwCl (W_X8 ca a rowSizes rows textSizes texts now keeps kept asked upper lower finding findings read at_ costs ways reach) H → va_D (adr (W_X8 ca a rowSizes rows textSizes texts now keeps kept asked upper lower finding findings read at_ costs ways reach)) (W_X8 ca a rowSizes rows textSizes texts now keeps kept asked upper lower finding findings read at_ costs ways reach) → va_S (adr (W_X8 ca a rowSizes rows textSizes texts now keeps kept asked upper lower finding findings read at_ costs ways reach)) zs.heap H locs → ∀ ls : Array Slot, lv_has ls 7 [(0, .ref (a 0)), (1, .int last), (2, .int x2), (3, .int x3), (4, .int x4)] → W zp l ze rm_X8_layOrders zs zm ([.ref (a 0), .int last] : List Value).toArray zb zt zc H locs 0 0 (MQ zb (wrV (S := (Nat → Int32) × (Nat → Int64)) D (W_X8 ca a rowSizes rows textSizes texts now keeps kept asked upper lower finding findings read at_ costs ways reach) (fun zu => W_X8 ca a rowSizes rows textSizes texts now keeps kept asked upper lower finding findings read at_ zu.1 zu.2 reach) (fun zu => post zu.1 zu.2)) ([.ref (a 0), .int last] : List Value).toArray zs 0 0 (adr (W_X8 ca a rowSizes rows textSizes texts now keeps kept asked upper lower finding findings read at_ costs ways reach))) (F0 zm 48 ls []) := by
    intro K9 ih9 zn
    induction zn with
    | zero => intro costs ways x2 x3 x4 h; exact h.elim
    | succ zn ih48 =>
      intro costs ways x2 x3 x4 h H locs hP hD hS ls hl
      replace h : wb_X8_layOrders_48 now last K9 (wl_X8_layOrders_48 now last K9 zn) costs ways x2 x3 x4 := h
      unfold wb_X8_layOrders_48 at h
      refine lv_iload hx hb dX8_layOrders_48 (lv_at hl 4 rfl) ?_
      refine lv_aload_n hx hb dX8_layOrders_50 rfl (lv_at hl 0 rfl) ?_
      refine va_get (D := D) (ci := 7) (v := .ref (a 5)) (C := RX8) (T := TX8) (N := 17) hx hb hts hi_X8_layOrders_X8 hown hK.1 hP 0 rfl rfl 4 (by decide) (hts _ k_X8_layOrders_1) (fun _ h9 => h9) rfl dX8_layOrders_51 ?_
      refine lv_iconst (v := (0)) hx hb dX8_layOrders_54 (by decide) ?_
      refine x_iald (v := now 0) hx hb hK hP 5 rfl (vin_lit (by decide)) rfl dX8_layOrders_55 ?_
      refine lv_icmp_ge (tgt := 165) hx hb dX8_layOrders_56 (by decide) (fun hc => ?_) (fun hc => ?_)
      · have h := h.1 hc
        refine lv_iinc (v := x3 + 1) (lv' := [(3, .int (x3 + 1)), (0, .ref (a 0)), (1, .int last), (2, .int x2), (4, .int x4)]) hx hb dX8_layOrders_165 hl (k := 3) rfl rfl (by decide) rfl (fun ls hl => ?_)
        refine lv_goto (tgt := 9) hx hb dX8_layOrders_168 (by decide) ?_
        exact ih9 costs ways x2 (x3 + 1) h _ _ hP hD hS ls (lv_sub hl [1, 2, 3, 0] rfl)
      · have h := h.2 hc
        refine lv_iload_n hx hb dX8_layOrders_59 rfl (lv_at hl 3 rfl) ?_
        refine lv_iload_n hx hb dX8_layOrders_60 rfl (lv_at hl 2 rfl) ?_
        refine lv_iconst (v := (-1)) hx hb dX8_layOrders_61 (by decide) ?_
        refine lv_ixor hx hb dX8_layOrders_62 ?_
        refine lv_iand hx hb dX8_layOrders_63 ?_
        refine lv_if_ne (tgt := 165) hx hb dX8_layOrders_64 (by decide) (fun hc => ?_) (fun hc => ?_)
        · have h := h.1 hc
          refine lv_iinc (v := x3 + 1) (lv' := [(3, .int (x3 + 1)), (0, .ref (a 0)), (1, .int last), (2, .int x2), (4, .int x4)]) hx hb dX8_layOrders_165 hl (k := 3) rfl rfl (by decide) rfl (fun ls hl => ?_)
          refine lv_goto (tgt := 9) hx hb dX8_layOrders_168 (by decide) ?_
          exact ih9 costs ways x2 (x3 + 1) h _ _ hP hD hS ls (lv_sub hl [1, 2, 3, 0] rfl)
        · have h := h.2 hc
          refine lv_iload_n hx hb dX8_layOrders_67 rfl (lv_at hl 3 rfl) ?_
          refine lv_iconst (v := (1)) hx hb dX8_layOrders_68 (by decide) ?_
          refine lv_iload hx hb dX8_layOrders_69 (lv_at hl 4 rfl) ?_
          refine lv_ishl hx hb dX8_layOrders_71 ?_
          refine lv_iconst (v := (-1)) hx hb dX8_layOrders_72 (by decide) ?_
          refine lv_ixor hx hb dX8_layOrders_73 ?_
          refine lv_iand hx hb dX8_layOrders_74 ?_
          refine lv_istore (lv' := [(5, .int (x3 &&& (((1 : Int32) <<< (x4 &&& 31)) ^^^ (-1 : Int32)))), (0, .ref (a 0)), (1, .int last), (2, .int x2), (3, .int x3), (4, .int x4)]) hx hb dX8_layOrders_75 hl (by decide) rfl (fun ls hl => ?_)
          refine lv_aload_n hx hb dX8_layOrders_77 rfl (lv_at hl 1 rfl) ?_
          refine lv_iload hx hb dX8_layOrders_78 (lv_at hl 5 rfl) ?_
          refine lv_iload_n hx hb dX8_layOrders_80 rfl (lv_at hl 4 rfl) ?_
          refine rd_callz (va_runV (As := [.int x4, .int x3]) (rest := []) ⟨hx, hb, hml, hown, hts⟩ (c_X8_mayBe l D ca a rowSizes rows textSizes texts now keeps kept asked upper lower finding findings read at_ costs ways reach x4 x3 _ h) (cwV 2 hts gX8_layOrders_X8_mayBe rfl rfl rfl (by decide +kernel) ⟨Nat.le_of_ble_eq_true rfl, Nat.le_of_ble_eq_true rfl⟩) (PcX.preV (q := (RX8, TX8, 17)) (ci := 7) (q0 := 0) hK hP rfl rfl hP) rfl rfl hl.1 rfl (lv_room (Nat.le_of_ble_eq_true rfl)) dX8_layOrders_81 ⟨Nat.le_of_ble_eq_true rfl, Nat.le_of_ble_eq_true rfl⟩) (fun r1 h hz_r1 => ?_)
          try dsimp only at h
          refine lv_if_eq (tgt := 159) hx hb dX8_layOrders_84 (by decide) (fun hc => ?_) (fun hc => ?_)
          · have h := h.1 hc
            refine lv_iinc (v := x4 + 1) (lv' := [(4, .int (x4 + 1)), (5, .int (x3 &&& (((1 : Int32) <<< (x4 &&& 31)) ^^^ (-1 : Int32)))), (0, .ref (a 0)), (1, .int last), (2, .int x2), (3, .int x3)]) hx hb dX8_layOrders_159 hl (k := 5) rfl rfl (by decide) rfl (fun ls hl => ?_)
            refine lv_goto (tgt := 48) hx hb dX8_layOrders_162 (by decide) ?_
            exact ih48 costs ways x2 x3 (x4 + 1) h _ _ hP hD hS ls (lv_sub hl [2, 3, 4, 5, 0] rfl)
          · have h := h.2 hc
            refine lv_iload hx hb dX8_layOrders_87 (lv_at hl 5 rfl) ?_
            refine lv_iload_n hx hb dX8_layOrders_89 rfl (lv_at hl 2 rfl) ?_
            refine lv_icmp_ne (tgt := 98) hx hb dX8_layOrders_90 (by decide) (fun hc => ?_) (fun hc => ?_)
            · have h := h.1 hc
              exact w_98 _ ih48 costs ways x2 x3 x4 (x3 &&& (((1 : Int32) <<< (x4 &&& 31)) ^^^ (-1 : Int32))) h _ _ hP hD hS ls (lv_sub hl [1, 2, 3, 4, 5, 0] rfl)
            · have h := h.2 hc
              refine lv_iload hx hb dX8_layOrders_93 (lv_at hl 0 rfl) ?_
              refine lv_if_ne (tgt := 159) hx hb dX8_layOrders_95 (by decide) (fun hc => ?_) (fun hc => ?_)
              · have h := h.1 hc
                refine lv_iinc (v := x4 + 1) (lv' := [(4, .int (x4 + 1)), (5, .int (x3 &&& (((1 : Int32) <<< (x4 &&& 31)) ^^^ (-1 : Int32)))), (0, .ref (a 0)), (1, .int last), (2, .int x2), (3, .int x3)]) hx hb dX8_layOrders_159 hl (k := 5) rfl rfl (by decide) rfl (fun ls hl => ?_)
                refine lv_goto (tgt := 48) hx hb dX8_layOrders_162 (by decide) ?_
                exact ih48 costs ways x2 x3 (x4 + 1) h _ _ hP hD hS ls (lv_sub hl [2, 3, 4, 5, 0] rfl)
              · have h := h.2 hc
                exact w_98 _ ih48 costs ways x2 x3 x4 (x3 &&& (((1 : Int32) <<< (x4 &&& 31)) ^^^ (-1 : Int32))) h _ _ hP hD hS ls (lv_sub hl [1, 2, 3, 4, 5, 0] rfl)
  have w_29 : ∀ (K9 : (Nat → Int32) → (Nat → Int64) → (Int32) → (Int32) → Prop) (ih9 : ∀ (costs : Nat → Int32) (ways : Nat → Int64) (x2 : Int32) (x3 : Int32), K9 costs ways x2 x3 → ∀ (H : Heap) (locs : List Loc), va_P D vwCl (W_X8 ca a rowSizes rows textSizes texts now keeps kept asked upper lower finding findings read at_ costs ways reach) H → va_D (adr (W_X8 ca a rowSizes rows textSizes texts now keeps kept asked upper lower finding findings read at_ costs ways reach)) (W_X8 ca a rowSizes rows textSizes texts now keeps kept asked upper lower finding findings read at_ costs ways reach) → va_S (adr (W_X8 ca a rowSizes rows textSizes texts now keeps kept asked upper lower finding findings read at_ costs ways reach)) zs.heap H locs → ∀ ls : Array Slot, lv_has ls 7 [(0, .ref (a 0)), (1, .int last), (2, .int x2), (3, .int x3)] → W zp l ze rm_X8_layOrders zs zm ([.ref (a 0), .int last] : List Value).toArray zb zt zc H locs 0 0 (MQ zb (wrV (S := (Nat → Int32) × (Nat → Int64)) D (W_X8 ca a rowSizes rows textSizes texts now keeps kept asked upper lower finding findings read at_ costs ways reach) (fun zu => W_X8 ca a rowSizes rows textSizes texts now keeps kept asked upper lower finding findings read at_ zu.1 zu.2 reach) (fun zu => post zu.1 zu.2)) ([.ref (a 0), .int last] : List Value).toArray zs 0 0 (adr (W_X8 ca a rowSizes rows textSizes texts now keeps kept asked upper lower finding findings read at_ costs ways reach))) (F0 zm 9 ls [])) (costs : Nat → Int32) (ways : Nat → Int64) (x2 : Int32) (x3 : Int32) (s0 : Int32) (s1 : Int32), wb_X8_layOrders_29 now last K9 costs ways x2 x3 s0 s1 → ∀ (H : Heap) (locs : List Loc), va_P D vwCl (W_X8 ca a rowSizes rows textSizes texts now keeps kept asked upper lower finding findings read at_ costs ways reach) H → va_D (adr (W_X8 ca a rowSizes rows textSizes texts now keeps kept asked upper lower finding findings read at_ costs ways reach)) (W_X8 ca a rowSizes rows textSizes texts now keeps kept asked upper lower finding findings read at_ costs ways reach) → va_S (adr (W_X8 ca a rowSizes rows textSizes texts now keeps kept asked upper lower finding findings read at_ costs ways reach)) zs.heap H locs → ∀ ls : Array Slot, lv_has ls 7 [(0, .ref (a 0)), (1, .int last), (2, .int x2), (3, .int x3)] → W zp l ze rm_X8_layOrders zs zm ([.ref (a 0), .int last] : List Value).toArray zb zt zc H locs 0 0 (MQ zb (wrV (S := (Nat → Int32) × (Nat → Int64)) D (W_X8 ca a rowSizes rows textSizes texts now keeps kept asked upper lower finding findings read at_ costs ways reach) (fun zu => W_X8 ca a rowSizes rows textSizes texts now keeps kept asked upper lower finding findings read at_ zu.1 zu.2 reach) (fun zu => post zu.1 zu.2)) ([.ref (a 0), .int last] : List Value).toArray zs 0 0 (adr (W_X8 ca a rowSizes rows textSizes texts now keeps kept asked upper lower finding findings read at_ costs ways reach))) (F0 zm 29 ls [.int s0, .int s1, .ref (a 10)]) := by
    intro K9 ih9 costs ways x2 x3 s0 s1 h H locs hP hD hS ls hl
    unfold wb_X8_layOrders_29 at h
    obtain ⟨hi, h⟩ := h
    refine x_iast (ws' := W_X8 ca a rowSizes rows textSizes texts now keeps kept asked upper lower finding findings read at_ (upd costs (s1.toNatClampNeg) s0) ways reach) hx hb hK hP hD hS 10 rfl hi (k := (s1.toNatClampNeg)) rfl rfl dX8_layOrders_29 (fun H locs hP hD hS => ?_)
    refine lv_aload_n hx hb dX8_layOrders_30 rfl (lv_at hl 0 rfl) ?_
    refine va_get (D := D) (ci := 7) (v := .ref (a 11)) (C := RX8) (T := TX8) (N := 17) hx hb hts hi_X8_layOrders_X8 hown hK.1 hP 0 rfl rfl 15 (by decide) (hts _ k_X8_layOrders_4) (fun _ h9 => h9) rfl dX8_layOrders_31 ?_
    refine lv_iload_n hx hb dX8_layOrders_34 rfl (lv_at hl 3 rfl) ?_
    refine lv_iload_n hx hb dX8_layOrders_35 rfl (lv_at hl 3 rfl) ?_
    refine lv_if_ne (tgt := 43) hx hb dX8_layOrders_36 (by decide) (fun hc => ?_) (fun hc => ?_)
    · have h := h.1 hc
      refine lv_lconst (v := (0)) hx hb dX8_layOrders_43 (by decide) ?_
      obtain ⟨hi, h⟩ := h
      refine x_last (ws' := W_X8 ca a rowSizes rows textSizes texts now keeps kept asked upper lower finding findings read at_ (upd costs (s1.toNatClampNeg) s0) (vp_updL ways (x3.toNatClampNeg) (0 : Int64)) reach) hx hb hK hP hD hS 11 rfl hi (k := (x3.toNatClampNeg)) rfl rfl dX8_layOrders_44 (fun H locs hP hD hS => ?_)
      refine lv_iconst (v := (0)) hx hb dX8_layOrders_45 (by decide) ?_
      refine lv_istore (lv' := [(4, .int (0 : Int32)), (0, .ref (a 0)), (1, .int last), (2, .int x2), (3, .int x3)]) hx hb dX8_layOrders_46 hl (by decide) rfl (fun ls hl => ?_)
      obtain ⟨zn, h⟩ := h
      exact w_48 _ ih9 zn (upd costs (s1.toNatClampNeg) s0) (vp_updL ways (x3.toNatClampNeg) (0 : Int64)) x2 x3 (0 : Int32) h _ _ hP hD hS ls (lv_sub hl [1, 2, 3, 4, 0] rfl)
    · have h := h.2 hc
      refine lv_lconst (v := (1)) hx hb dX8_layOrders_39 (by decide) ?_
      refine lv_goto (tgt := 44) hx hb dX8_layOrders_40 (by decide) ?_
      obtain ⟨hi, h⟩ := h
      refine x_last (ws' := W_X8 ca a rowSizes rows textSizes texts now keeps kept asked upper lower finding findings read at_ (upd costs (s1.toNatClampNeg) s0) (vp_updL ways (x3.toNatClampNeg) (1 : Int64)) reach) hx hb hK hP hD hS 11 rfl hi (k := (x3.toNatClampNeg)) rfl rfl dX8_layOrders_44 (fun H locs hP hD hS => ?_)
      refine lv_iconst (v := (0)) hx hb dX8_layOrders_45 (by decide) ?_
      refine lv_istore (lv' := [(4, .int (0 : Int32)), (0, .ref (a 0)), (1, .int last), (2, .int x2), (3, .int x3)]) hx hb dX8_layOrders_46 hl (by decide) rfl (fun ls hl => ?_)
      obtain ⟨zn, h⟩ := h
      exact w_48 _ ih9 zn (upd costs (s1.toNatClampNeg) s0) (vp_updL ways (x3.toNatClampNeg) (1 : Int64)) x2 x3 (0 : Int32) h _ _ hP hD hS ls (lv_sub hl [1, 2, 3, 4, 0] rfl)
  have w_9 : ∀ (zn : Nat) (costs : Nat → Int32) (ways : Nat → Int64) (x2 : Int32) (x3 : Int32), wl_X8_layOrders_9 now last post zn costs ways x2 x3 → ∀ (H : Heap) (locs : List Loc), va_P D vwCl (W_X8 ca a rowSizes rows textSizes texts now keeps kept asked upper lower finding findings read at_ costs ways reach) H → va_D (adr (W_X8 ca a rowSizes rows textSizes texts now keeps kept asked upper lower finding findings read at_ costs ways reach)) (W_X8 ca a rowSizes rows textSizes texts now keeps kept asked upper lower finding findings read at_ costs ways reach) → va_S (adr (W_X8 ca a rowSizes rows textSizes texts now keeps kept asked upper lower finding findings read at_ costs ways reach)) zs.heap H locs → ∀ ls : Array Slot, lv_has ls 7 [(0, .ref (a 0)), (1, .int last), (2, .int x2), (3, .int x3)] → W zp l ze rm_X8_layOrders zs zm ([.ref (a 0), .int last] : List Value).toArray zb zt zc H locs 0 0 (MQ zb (wrV (S := (Nat → Int32) × (Nat → Int64)) D (W_X8 ca a rowSizes rows textSizes texts now keeps kept asked upper lower finding findings read at_ costs ways reach) (fun zu => W_X8 ca a rowSizes rows textSizes texts now keeps kept asked upper lower finding findings read at_ zu.1 zu.2 reach) (fun zu => post zu.1 zu.2)) ([.ref (a 0), .int last] : List Value).toArray zs 0 0 (adr (W_X8 ca a rowSizes rows textSizes texts now keeps kept asked upper lower finding findings read at_ costs ways reach))) (F0 zm 9 ls []) := by
    intro zn
    induction zn with
    | zero => intro costs ways x2 x3 h; exact h.elim
    | succ zn ih9 =>
      intro costs ways x2 x3 h H locs hP hD hS ls hl
      replace h : wb_X8_layOrders_9 now last post (wl_X8_layOrders_9 now last post zn) costs ways x2 x3 := h
      unfold wb_X8_layOrders_9 at h
      refine lv_iload_n hx hb dX8_layOrders_9 rfl (lv_at hl 3 rfl) ?_
      refine lv_iload_n hx hb dX8_layOrders_10 rfl (lv_at hl 2 rfl) ?_
      refine lv_icmp_gt (tgt := 171) hx hb dX8_layOrders_11 (by decide) (fun hc => ?_) (fun hc => ?_)
      · have h := h.1 hc
        exact W.vret hx hb hr (fun zt ht hW => ⟨⟨(costs, ways), rfl, h, by rw [ht]; exact hP⟩, hS.F ht⟩) hS.2.2 dX8_layOrders_171
      · have h := h.2 hc
        refine lv_aload_n hx hb dX8_layOrders_14 rfl (lv_at hl 0 rfl) ?_
        refine va_get (D := D) (ci := 7) (v := .ref (a 10)) (C := RX8) (T := TX8) (N := 17) hx hb hts hi_X8_layOrders_X8 hown hK.1 hP 0 rfl rfl 14 (by decide) (hts _ k_X8_layOrders_2) (fun _ h9 => h9) rfl dX8_layOrders_15 ?_
        refine lv_iload_n hx hb dX8_layOrders_18 rfl (lv_at hl 3 rfl) ?_
        refine lv_iload_n hx hb dX8_layOrders_19 rfl (lv_at hl 3 rfl) ?_
        refine lv_if_ne (tgt := 27) hx hb dX8_layOrders_20 (by decide) (fun hc => ?_) (fun hc => ?_)
        · have h := h.1 hc
          refine lv_ldc (v := (1000000)) hx hb hown (hts _ k_X8_layOrders_3) dX8_layOrders_27 ?_
          exact w_29 _ ih9 costs ways x2 x3 (1000000 : Int32) x3 h _ _ hP hD hS ls (lv_sub hl [0, 1, 2, 3] rfl)
        · have h := h.2 hc
          refine lv_iconst (v := (0)) hx hb dX8_layOrders_23 (by decide) ?_
          refine lv_goto (tgt := 29) hx hb dX8_layOrders_24 (by decide) ?_
          exact w_29 _ ih9 costs ways x2 x3 (0 : Int32) x3 h _ _ hP hD hS ls (lv_sub hl [0, 1, 2, 3] rfl)
  unfold wp_X8_layOrders at h
  refine lv_aload_n hx hb dX8_layOrders_0 rfl (lv_at hl 0 rfl) ?_
  refine va_get (D := D) (ci := 7) (v := .ref (a 5)) (C := RX8) (T := TX8) (N := 17) hx hb hts hi_X8_layOrders_X8 hown hK.1 hP 0 rfl rfl 4 (by decide) (hts _ k_X8_layOrders_1) (fun _ h9 => h9) rfl dX8_layOrders_1 ?_
  refine lv_iconst (v := (2)) hx hb dX8_layOrders_4 (by decide) ?_
  refine x_iald (v := now 2) hx hb hK hP 5 rfl (vin_lit (by decide)) rfl dX8_layOrders_5 ?_
  refine lv_istore_n (lv' := [(2, .int (now 2)), (0, .ref (a 0)), (1, .int last)]) hx hb dX8_layOrders_6 rfl hl (by decide) rfl (fun ls hl => ?_)
  refine lv_iconst (v := (0)) hx hb dX8_layOrders_7 (by decide) ?_
  refine lv_istore_n (lv' := [(3, .int (0 : Int32)), (2, .int (now 2)), (0, .ref (a 0)), (1, .int last)]) hx hb dX8_layOrders_8 rfl hl (by decide) rfl (fun ls hl => ?_)
  obtain ⟨zn, h⟩ := h
  exact w_9  zn costs ways (now 2) (0 : Int32) h _ _ hP hD hS ls (lv_sub hl [2, 3, 1, 0] rfl)

-- IronedQuarrelsModel.cheapest(I)I
def wb_X8_cheapest_53 (now : Nat → Int32) (r : Int32) (K43 : (Nat → Int32) → (Nat → Int32) → (Int32) → (Nat → Int32) → (Nat → Int32) → (Nat → Int64) → (Int32) → (Int32) → (Int32) → (Int32) → Prop) (K53 : (Nat → Int32) → (Nat → Int32) → (Int32) → (Nat → Int32) → (Nat → Int32) → (Nat → Int64) → (Int32) → (Int32) → (Int32) → (Int32) → (Int32) → Prop) (rowSizes : Nat → Int32) (rows : Nat → Int32) (finding : Int32) (findings : Nat → Int32) (costs : Nat → Int32) (ways : Nat → Int64) (x2 : Int32) (x3 : Int32) (x4 : Int32) (x5 : Int32) (x6 : Int32) : Prop :=
  wp_X8_mayBe now x6 x2 (fun r10 => (r10 = 0 → (K53 rowSizes rows finding findings costs ways x2 x3 x4 x5 (x6 + 1))) ∧ (¬ r10 = 0 → (wp_X8_price now x6 x2 (fun r11 => vp_in (x2 &&& (((1 : Int32) <<< (x6 &&& 31)) ^^^ (-1 : Int32))) 4096 ∧ vp_in x2 4096 ∧ ((r11 + (costs (x2 &&& (((1 : Int32) <<< (x6 &&& 31)) ^^^ (-1 : Int32))).toNatClampNeg)) = (costs x2.toNatClampNeg) → (vp_in (((40 : Int32) * r) + x5) 240 ∧ K43 rowSizes (upd rows ((((40 : Int32) * r) + x5).toNatClampNeg) x6) finding findings costs ways (x2 &&& (((1 : Int32) <<< (x6 &&& 31)) ^^^ (-1 : Int32))) x3 x4 (x5 + 1))) ∧ (¬ (r11 + (costs (x2 &&& (((1 : Int32) <<< (x6 &&& 31)) ^^^ (-1 : Int32))).toNatClampNeg)) = (costs x2.toNatClampNeg) → (K53 rowSizes rows finding findings costs ways x2 x3 x4 x5 (x6 + 1)))))))
def wl_X8_cheapest_53 (now : Nat → Int32) (r : Int32) (K43 : (Nat → Int32) → (Nat → Int32) → (Int32) → (Nat → Int32) → (Nat → Int32) → (Nat → Int64) → (Int32) → (Int32) → (Int32) → (Int32) → Prop) : Nat → (Nat → Int32) → (Nat → Int32) → (Int32) → (Nat → Int32) → (Nat → Int32) → (Nat → Int64) → (Int32) → (Int32) → (Int32) → (Int32) → (Int32) → Prop
  | 0 => fun _ _ _ _ _ _ _ _ _ _ _ => False
  | zn + 1 => wb_X8_cheapest_53 now r K43 (wl_X8_cheapest_53 now r K43 zn)
def wb_X8_cheapest_43 (now : Nat → Int32) (r : Int32) (post : Int32 → (Nat → Int32) → (Nat → Int32) → (Int32) → (Nat → Int32) → (Nat → Int32) → (Nat → Int64) → Prop) (K43 : (Nat → Int32) → (Nat → Int32) → (Int32) → (Nat → Int32) → (Nat → Int32) → (Nat → Int64) → (Int32) → (Int32) → (Int32) → (Int32) → Prop) (rowSizes : Nat → Int32) (rows : Nat → Int32) (finding : Int32) (findings : Nat → Int32) (costs : Nat → Int32) (ways : Nat → Int64) (x2 : Int32) (x3 : Int32) (x4 : Int32) (x5 : Int32) : Prop :=
  (x4 ≤ x5 → (post x3 rowSizes rows finding findings costs ways)) ∧ (¬ x4 ≤ x5 → (∃ zn, wl_X8_cheapest_53 now r K43 zn rowSizes rows finding findings costs ways x2 x3 x4 x5 (0 : Int32)))
def wl_X8_cheapest_43 (now : Nat → Int32) (r : Int32) (post : Int32 → (Nat → Int32) → (Nat → Int32) → (Int32) → (Nat → Int32) → (Nat → Int32) → (Nat → Int64) → Prop) : Nat → (Nat → Int32) → (Nat → Int32) → (Int32) → (Nat → Int32) → (Nat → Int32) → (Nat → Int64) → (Int32) → (Int32) → (Int32) → (Int32) → Prop
  | 0 => fun _ _ _ _ _ _ _ _ _ _ => False
  | zn + 1 => wb_X8_cheapest_43 now r post (wl_X8_cheapest_43 now r post zn)
def wp_X8_cheapest (rowSizes : Nat → Int32) (rows : Nat → Int32) (now : Nat → Int32) (finding : Int32) (findings : Nat → Int32) (costs : Nat → Int32) (ways : Nat → Int64) (r : Int32) (post : Int32 → (Nat → Int32) → (Nat → Int32) → (Int32) → (Nat → Int32) → (Nat → Int32) → (Nat → Int64) → Prop) : Prop :=
  wp_X8_isRow r (fun r1 => (¬ r1 = 0 → (wp_X8_layOrders now costs ways (-9 : Int32) (fun costs_2 ways_3 => vp_in (now 2) 4096 ∧ wp_X8_bits (now 2) (fun r4 => wp_X8_row rowSizes rows finding findings r r4 (fun r5 rowSizes_6 rows_7 finding_8 findings_9 => ∃ zn, wl_X8_cheapest_43 now r post zn rowSizes_6 rows_7 finding_8 findings_9 costs_2 ways_3 (now 2) (costs_2 (now 2).toNatClampNeg) r5 (0 : Int32)))))) ∧ (r1 = 0 → (post (-1 : Int32) rowSizes rows finding findings costs ways)))
def rm_X8_cheapest : Room := { frames := 4, cells := 0, slots := 0, locals := 96 }
theorem k_X8_cheapest_1 : Cond.fieldLink RX8 22 "IronedQuarrelsModel" "now" "[I" ∈ wsX8_cheapest := List.mem_of_getElem? (i := 1) (by decide +kernel)
theorem k_X8_cheapest_2 : Cond.fieldLink RX8 42 "IronedQuarrelsModel" "costs" "[I" ∈ wsX8_cheapest := List.mem_of_getElem? (i := 2) (by decide +kernel)
theorem k_X8_cheapest_3 : Cond.fieldLink RX8 13 "IronedQuarrelsModel" "rows" "[I" ∈ wsX8_cheapest := List.mem_of_getElem? (i := 3) (by decide +kernel)
theorem hi_X8_cheapest_X8 : ∀ w ∈ wsX80, w ∈ wsX8_cheapest := fun w h => List.mem_cons_of_mem _ (List.mem_append_right _ h)
set_option maxHeartbeats 4000000 in
set_option maxRecDepth 100000 in
theorem c_X8_cheapest (l : Launch) (D : va_G) (ca : Nat → ClassId) (a : Nat → Nat) (rowSizes : Nat → Int32) (rows : Nat → Int32) (textSizes : Nat → Int32) (texts : Nat → Int32) (now : Nat → Int32) (keeps : Nat → Int32) (kept : Nat → Int32) (asked : Int32) (upper : Int64) (lower : Int64) (finding : Int32) (findings : Nat → Int32) (read : Nat → Int32) (at_ : Int32) (costs : Nat → Int32) (ways : Nat → Int64) (reach : Nat → Int32) (r : Int32) (post : Int32 → (Nat → Int32) → (Nat → Int32) → (Int32) → (Nat → Int32) → (Nat → Int32) → (Nat → Int64) → Prop) (hd : va_D (fun _ => True) (W_X8 ca a rowSizes rows textSizes texts now keeps kept asked upper lower finding findings read at_ costs ways reach)) (h : wp_X8_cheapest rowSizes rows now finding findings costs ways r post) : Met l yX8_cheapest wsX8_cheapest rm_X8_cheapest (PcX D ca [.ref (a 0), .int r] (W_X8 ca a rowSizes rows textSizes texts now keeps kept asked upper lower finding findings read at_ costs ways reach)) (wrI (S := (Nat → Int32) × (Nat → Int32) × (Int32) × (Nat → Int32) × (Nat → Int32) × (Nat → Int64)) D (W_X8 ca a rowSizes rows textSizes texts now keeps kept asked upper lower finding findings read at_ costs ways reach) (fun zu => W_X8 ca a zu.1 zu.2.1 textSizes texts now keeps kept asked upper lower zu.2.2.1 zu.2.2.2.1 read at_ zu.2.2.2.2.1 zu.2.2.2.2.2 reach) (fun zr zu => post zr zu.1 zu.2.1 zu.2.2.1 zu.2.2.2.1 zu.2.2.2.2.1 zu.2.2.2.2.2)) 0 0 (adr (W_X8 ca a rowSizes rows textSizes texts now keeps kept asked upper lower finding findings read at_ costs ways reach)) := by
  refine Met.ofW (cc := cX8_cheapest) (maxL := 7) (ret := (some .int)) (by decide) rfl ?_
  intro zp ze zs zm za zb zt zc z1 B hml hv
  obtain ⟨rfl, hP, hK⟩ := hv
  have hx := B.exec
  have hb := B.bytes
  have hr := B.returns
  have hts := atoms_spec (ws := wsX8_cheapest) B.pre
  have hown : zs.vm.findClass RX8 = some zm.cls := findClass_of_methodNamed B.named
  have hlocks := B.notSynchronized
  have hD : va_D (adr (W_X8 ca a rowSizes rows textSizes texts now keeps kept asked upper lower finding findings read at_ costs ways reach)) (W_X8 ca a rowSizes rows textSizes texts now keeps kept asked upper lower finding findings read at_ costs ways reach) := hd.adr
  have hS : va_S (adr (W_X8 ca a rowSizes rows textSizes texts now keeps kept asked upper lower finding findings read at_ costs ways reach)) zs.heap zs.heap [] := va_S.rf
  have hl := lv_entry ([.ref (a 0), .int r]) (n := 7) (Nat.le_of_ble_eq_true rfl)
  rw [lg_entry_eq]
  generalize (lg_sl ([.ref (a 0), .int r]) ++ List.replicate (7 - (lg_sl ([.ref (a 0), .int r])).length) Slot.unset).toArray = ls at hl ⊢
  replace hl : lv_has ls 7 [(0, .ref (a 0)), (1, .int r)] := hl
  show W zp l ze rm_X8_cheapest zs zm ([.ref (a 0), .int r] : List Value).toArray zb zt zc zs.heap [] 0 0 (MQ zb (wrI (S := (Nat → Int32) × (Nat → Int32) × (Int32) × (Nat → Int32) × (Nat → Int32) × (Nat → Int64)) D (W_X8 ca a rowSizes rows textSizes texts now keeps kept asked upper lower finding findings read at_ costs ways reach) (fun zu => W_X8 ca a zu.1 zu.2.1 textSizes texts now keeps kept asked upper lower zu.2.2.1 zu.2.2.2.1 read at_ zu.2.2.2.2.1 zu.2.2.2.2.2 reach) (fun zr zu => post zr zu.1 zu.2.1 zu.2.2.1 zu.2.2.2.1 zu.2.2.2.2.1 zu.2.2.2.2.2)) ([.ref (a 0), .int r] : List Value).toArray zs 0 0 (adr (W_X8 ca a rowSizes rows textSizes texts now keeps kept asked upper lower finding findings read at_ costs ways reach))) (F0 zm 0 ls [])
  have w_53 : ∀ (K43 : (Nat → Int32) → (Nat → Int32) → (Int32) → (Nat → Int32) → (Nat → Int32) → (Nat → Int64) → (Int32) → (Int32) → (Int32) → (Int32) → Prop) (ih43 : ∀ (rowSizes : Nat → Int32) (rows : Nat → Int32) (finding : Int32) (findings : Nat → Int32) (costs : Nat → Int32) (ways : Nat → Int64) (x2 : Int32) (x3 : Int32) (x4 : Int32) (x5 : Int32), K43 rowSizes rows finding findings costs ways x2 x3 x4 x5 → ∀ (H : Heap) (locs : List Loc), va_P D vwCl (W_X8 ca a rowSizes rows textSizes texts now keeps kept asked upper lower finding findings read at_ costs ways reach) H → va_D (adr (W_X8 ca a rowSizes rows textSizes texts now keeps kept asked upper lower finding findings read at_ costs ways reach)) (W_X8 ca a rowSizes rows textSizes texts now keeps kept asked upper lower finding findings read at_ costs ways reach) → va_S (adr (W_X8 ca a rowSizes rows textSizes texts now keeps kept asked upper lower finding findings read at_ costs ways reach)) zs.heap H locs → ∀ ls : Array Slot, lv_has ls 7 [(0, .ref (a 0)), (1, .int r), (2, .int x2), (3, .int x3), (4, .int x4), (5, .int x5)] → W zp l ze rm_X8_cheapest zs zm ([.ref (a 0), .int r] : List Value).toArray zb zt zc H locs 0 0 (MQ zb (wrI (S := (Nat → Int32) × (Nat → Int32) × (Int32) × (Nat → Int32) × (Nat → Int32) × (Nat → Int64)) D (W_X8 ca a rowSizes rows textSizes texts now keeps kept asked upper lower finding findings read at_ costs ways reach) (fun zu => W_X8 ca a zu.1 zu.2.1 textSizes texts now keeps kept asked upper lower zu.2.2.1 zu.2.2.2.1 read at_ zu.2.2.2.2.1 zu.2.2.2.2.2 reach) (fun zr zu => post zr zu.1 zu.2.1 zu.2.2.1 zu.2.2.2.1 zu.2.2.2.2.1 zu.2.2.2.2.2)) ([.ref (a 0), .int r] : List Value).toArray zs 0 0 (adr (W_X8 ca a rowSizes rows textSizes texts now keeps kept asked upper lower finding findings read at_ costs ways reach))) (F0 zm 43 ls [])) (zn : Nat) (rowSizes : Nat → Int32) (rows : Nat → Int32) (finding : Int32) (findings : Nat → Int32) (costs : Nat → Int32) (ways : Nat → Int64) (x2 : Int32) (x3 : Int32) (x4 : Int32) (x5 : Int32) (x6 : Int32), wl_X8_cheapest_53 now r K43 zn rowSizes rows finding findings costs ways x2 x3 x4 x5 x6 → ∀ (H : Heap) (locs : List Loc), va_P D vwCl (W_X8 ca a rowSizes rows textSizes texts now keeps kept asked upper lower finding findings read at_ costs ways reach) H → va_D (adr (W_X8 ca a rowSizes rows textSizes texts now keeps kept asked upper lower finding findings read at_ costs ways reach)) (W_X8 ca a rowSizes rows textSizes texts now keeps kept asked upper lower finding findings read at_ costs ways reach) → va_S (adr (W_X8 ca a rowSizes rows textSizes texts now keeps kept asked upper lower finding findings read at_ costs ways reach)) zs.heap H locs → ∀ ls : Array Slot, lv_has ls 7 [(0, .ref (a 0)), (1, .int r), (2, .int x2), (3, .int x3), (4, .int x4), (5, .int x5), (6, .int x6)] → W zp l ze rm_X8_cheapest zs zm ([.ref (a 0), .int r] : List Value).toArray zb zt zc H locs 0 0 (MQ zb (wrI (S := (Nat → Int32) × (Nat → Int32) × (Int32) × (Nat → Int32) × (Nat → Int32) × (Nat → Int64)) D (W_X8 ca a rowSizes rows textSizes texts now keeps kept asked upper lower finding findings read at_ costs ways reach) (fun zu => W_X8 ca a zu.1 zu.2.1 textSizes texts now keeps kept asked upper lower zu.2.2.1 zu.2.2.2.1 read at_ zu.2.2.2.2.1 zu.2.2.2.2.2 reach) (fun zr zu => post zr zu.1 zu.2.1 zu.2.2.1 zu.2.2.2.1 zu.2.2.2.2.1 zu.2.2.2.2.2)) ([.ref (a 0), .int r] : List Value).toArray zs 0 0 (adr (W_X8 ca a rowSizes rows textSizes texts now keeps kept asked upper lower finding findings read at_ costs ways reach))) (F0 zm 53 ls []) := by
    intro K43 ih43 zn
    induction zn with
    | zero => intro rowSizes rows finding findings costs ways x2 x3 x4 x5 x6 h; exact h.elim
    | succ zn ih53 =>
      intro rowSizes rows finding findings costs ways x2 x3 x4 x5 x6 h H locs hP hD hS ls hl
      replace h : wb_X8_cheapest_53 now r K43 (wl_X8_cheapest_53 now r K43 zn) rowSizes rows finding findings costs ways x2 x3 x4 x5 x6 := h
      unfold wb_X8_cheapest_53 at h
      refine lv_aload_n hx hb dX8_cheapest_53 rfl (lv_at hl 0 rfl) ?_
      refine lv_iload hx hb dX8_cheapest_54 (lv_at hl 6 rfl) ?_
      refine lv_iload_n hx hb dX8_cheapest_56 rfl (lv_at hl 2 rfl) ?_
      refine rd_callz (va_runV (As := [.int x6, .int x2]) (rest := []) ⟨hx, hb, hml, hown, hts⟩ (c_X8_mayBe l D ca a rowSizes rows textSizes texts now keeps kept asked upper lower finding findings read at_ costs ways reach x6 x2 _ h) (cwV 2 hts gX8_cheapest_X8_mayBe rfl rfl rfl (by decide +kernel) ⟨Nat.le_of_ble_eq_true rfl, Nat.le_of_ble_eq_true rfl⟩) (PcX.preV (q := (RX8, TX8, 17)) (ci := 7) (q0 := 0) hK hP rfl rfl hP) rfl rfl hl.1 rfl (lv_room (Nat.le_of_ble_eq_true rfl)) dX8_cheapest_57 ⟨Nat.le_of_ble_eq_true rfl, Nat.le_of_ble_eq_true rfl⟩) (fun r10 h hz_r10 => ?_)
      try dsimp only at h
      refine lv_if_eq (tgt := 93) hx hb dX8_cheapest_60 (by decide) (fun hc => ?_) (fun hc => ?_)
      · have h := h.1 hc
        refine lv_iinc (v := x6 + 1) (lv' := [(6, .int (x6 + 1)), (0, .ref (a 0)), (1, .int r), (2, .int x2), (3, .int x3), (4, .int x4), (5, .int x5)]) hx hb dX8_cheapest_93 hl (k := 6) rfl rfl (by decide) rfl (fun ls hl => ?_)
        refine lv_goto (tgt := 53) hx hb dX8_cheapest_96 (by decide) ?_
        exact ih53 rowSizes rows finding findings costs ways x2 x3 x4 x5 (x6 + 1) h _ _ hP hD hS ls (lv_sub hl [1, 2, 3, 4, 5, 6, 0] rfl)
      · have h := h.2 hc
        refine lv_aload_n hx hb dX8_cheapest_63 rfl (lv_at hl 0 rfl) ?_
        refine lv_iload hx hb dX8_cheapest_64 (lv_at hl 6 rfl) ?_
        refine lv_iload_n hx hb dX8_cheapest_66 rfl (lv_at hl 2 rfl) ?_
        refine rd_calli (va_runV (As := [.int x6, .int x2]) (rest := []) ⟨hx, hb, hml, hown, hts⟩ (c_X8_price l D ca a rowSizes rows textSizes texts now keeps kept asked upper lower finding findings read at_ costs ways reach x6 x2 _ h) (cwV 2 hts gX8_cheapest_X8_price rfl rfl rfl (by decide +kernel) ⟨Nat.le_of_ble_eq_true rfl, Nat.le_of_ble_eq_true rfl⟩) (PcX.preV (q := (RX8, TX8, 17)) (ci := 7) (q0 := 0) hK hP rfl rfl hP) rfl rfl hl.1 rfl (lv_room (Nat.le_of_ble_eq_true rfl)) dX8_cheapest_67 ⟨Nat.le_of_ble_eq_true rfl, Nat.le_of_ble_eq_true rfl⟩) (fun r11 h => ?_)
        try dsimp only at h
        refine lv_aload_n hx hb dX8_cheapest_70 rfl (lv_at hl 0 rfl) ?_
        refine va_get (D := D) (ci := 7) (v := .ref (a 10)) (C := RX8) (T := TX8) (N := 17) hx hb hts hi_X8_cheapest_X8 hown hK.1 hP 0 rfl rfl 14 (by decide) (hts _ k_X8_cheapest_2) (fun _ h9 => h9) rfl dX8_cheapest_71 ?_
        refine lv_iload_n hx hb dX8_cheapest_74 rfl (lv_at hl 2 rfl) ?_
        refine lv_iconst (v := (1)) hx hb dX8_cheapest_75 (by decide) ?_
        refine lv_iload hx hb dX8_cheapest_76 (lv_at hl 6 rfl) ?_
        refine lv_ishl hx hb dX8_cheapest_78 ?_
        refine lv_iconst (v := (-1)) hx hb dX8_cheapest_79 (by decide) ?_
        refine lv_ixor hx hb dX8_cheapest_80 ?_
        refine lv_iand hx hb dX8_cheapest_81 ?_
        obtain ⟨hi, h⟩ := h
        refine x_iald (v := costs (x2 &&& (((1 : Int32) <<< (x6 &&& 31)) ^^^ (-1 : Int32))).toNatClampNeg) hx hb hK hP 10 rfl hi rfl dX8_cheapest_82 ?_
        refine lv_iadd hx hb dX8_cheapest_83 ?_
        refine lv_aload_n hx hb dX8_cheapest_84 rfl (lv_at hl 0 rfl) ?_
        refine va_get (D := D) (ci := 7) (v := .ref (a 10)) (C := RX8) (T := TX8) (N := 17) hx hb hts hi_X8_cheapest_X8 hown hK.1 hP 0 rfl rfl 14 (by decide) (hts _ k_X8_cheapest_2) (fun _ h9 => h9) rfl dX8_cheapest_85 ?_
        refine lv_iload_n hx hb dX8_cheapest_88 rfl (lv_at hl 2 rfl) ?_
        obtain ⟨hi, h⟩ := h
        refine x_iald (v := costs x2.toNatClampNeg) hx hb hK hP 10 rfl hi rfl dX8_cheapest_89 ?_
        refine lv_icmp_eq (tgt := 99) hx hb dX8_cheapest_90 (by decide) (fun hc => ?_) (fun hc => ?_)
        · have h := h.1 hc
          refine lv_aload_n hx hb dX8_cheapest_99 rfl (lv_at hl 0 rfl) ?_
          refine va_get (D := D) (ci := 7) (v := .ref (a 2)) (C := RX8) (T := TX8) (N := 17) hx hb hts hi_X8_cheapest_X8 hown hK.1 hP 0 rfl rfl 1 (by decide) (hts _ k_X8_cheapest_3) (fun _ h9 => h9) rfl dX8_cheapest_100 ?_
          refine lv_bipush (v := (40)) hx hb dX8_cheapest_103 (by decide) ?_
          refine lv_iload_n hx hb dX8_cheapest_105 rfl (lv_at hl 1 rfl) ?_
          refine lv_imul hx hb dX8_cheapest_106 ?_
          refine lv_iload hx hb dX8_cheapest_107 (lv_at hl 5 rfl) ?_
          refine lv_iadd hx hb dX8_cheapest_109 ?_
          refine lv_iload hx hb dX8_cheapest_110 (lv_at hl 6 rfl) ?_
          obtain ⟨hi, h⟩ := h
          refine x_iast (ws' := W_X8 ca a rowSizes (upd rows ((((40 : Int32) * r) + x5).toNatClampNeg) x6) textSizes texts now keeps kept asked upper lower finding findings read at_ costs ways reach) hx hb hK hP hD hS 2 rfl hi (k := ((((40 : Int32) * r) + x5).toNatClampNeg)) rfl rfl dX8_cheapest_112 (fun H locs hP hD hS => ?_)
          refine lv_iload_n hx hb dX8_cheapest_113 rfl (lv_at hl 2 rfl) ?_
          refine lv_iconst (v := (1)) hx hb dX8_cheapest_114 (by decide) ?_
          refine lv_iload hx hb dX8_cheapest_115 (lv_at hl 6 rfl) ?_
          refine lv_ishl hx hb dX8_cheapest_117 ?_
          refine lv_iconst (v := (-1)) hx hb dX8_cheapest_118 (by decide) ?_
          refine lv_ixor hx hb dX8_cheapest_119 ?_
          refine lv_iand hx hb dX8_cheapest_120 ?_
          refine lv_istore_n (lv' := [(2, .int (x2 &&& (((1 : Int32) <<< (x6 &&& 31)) ^^^ (-1 : Int32)))), (0, .ref (a 0)), (1, .int r), (3, .int x3), (4, .int x4), (5, .int x5), (6, .int x6)]) hx hb dX8_cheapest_121 rfl hl (by decide) rfl (fun ls hl => ?_)
          refine lv_iinc (v := x5 + 1) (lv' := [(5, .int (x5 + 1)), (2, .int (x2 &&& (((1 : Int32) <<< (x6 &&& 31)) ^^^ (-1 : Int32)))), (0, .ref (a 0)), (1, .int r), (3, .int x3), (4, .int x4), (6, .int x6)]) hx hb dX8_cheapest_122 hl (k := 5) rfl rfl (by decide) rfl (fun ls hl => ?_)
          refine lv_goto (tgt := 43) hx hb dX8_cheapest_125 (by decide) ?_
          exact ih43 rowSizes (upd rows ((((40 : Int32) * r) + x5).toNatClampNeg) x6) finding findings costs ways (x2 &&& (((1 : Int32) <<< (x6 &&& 31)) ^^^ (-1 : Int32))) x3 x4 (x5 + 1) h _ _ hP hD hS ls (lv_sub hl [2, 3, 1, 4, 5, 0] rfl)
        · have h := h.2 hc
          refine lv_iinc (v := x6 + 1) (lv' := [(6, .int (x6 + 1)), (0, .ref (a 0)), (1, .int r), (2, .int x2), (3, .int x3), (4, .int x4), (5, .int x5)]) hx hb dX8_cheapest_93 hl (k := 6) rfl rfl (by decide) rfl (fun ls hl => ?_)
          refine lv_goto (tgt := 53) hx hb dX8_cheapest_96 (by decide) ?_
          exact ih53 rowSizes rows finding findings costs ways x2 x3 x4 x5 (x6 + 1) h _ _ hP hD hS ls (lv_sub hl [1, 2, 3, 4, 5, 6, 0] rfl)
  have w_43 : ∀ (zn : Nat) (rowSizes : Nat → Int32) (rows : Nat → Int32) (finding : Int32) (findings : Nat → Int32) (costs : Nat → Int32) (ways : Nat → Int64) (x2 : Int32) (x3 : Int32) (x4 : Int32) (x5 : Int32), wl_X8_cheapest_43 now r post zn rowSizes rows finding findings costs ways x2 x3 x4 x5 → ∀ (H : Heap) (locs : List Loc), va_P D vwCl (W_X8 ca a rowSizes rows textSizes texts now keeps kept asked upper lower finding findings read at_ costs ways reach) H → va_D (adr (W_X8 ca a rowSizes rows textSizes texts now keeps kept asked upper lower finding findings read at_ costs ways reach)) (W_X8 ca a rowSizes rows textSizes texts now keeps kept asked upper lower finding findings read at_ costs ways reach) → va_S (adr (W_X8 ca a rowSizes rows textSizes texts now keeps kept asked upper lower finding findings read at_ costs ways reach)) zs.heap H locs → ∀ ls : Array Slot, lv_has ls 7 [(0, .ref (a 0)), (1, .int r), (2, .int x2), (3, .int x3), (4, .int x4), (5, .int x5)] → W zp l ze rm_X8_cheapest zs zm ([.ref (a 0), .int r] : List Value).toArray zb zt zc H locs 0 0 (MQ zb (wrI (S := (Nat → Int32) × (Nat → Int32) × (Int32) × (Nat → Int32) × (Nat → Int32) × (Nat → Int64)) D (W_X8 ca a rowSizes rows textSizes texts now keeps kept asked upper lower finding findings read at_ costs ways reach) (fun zu => W_X8 ca a zu.1 zu.2.1 textSizes texts now keeps kept asked upper lower zu.2.2.1 zu.2.2.2.1 read at_ zu.2.2.2.2.1 zu.2.2.2.2.2 reach) (fun zr zu => post zr zu.1 zu.2.1 zu.2.2.1 zu.2.2.2.1 zu.2.2.2.2.1 zu.2.2.2.2.2)) ([.ref (a 0), .int r] : List Value).toArray zs 0 0 (adr (W_X8 ca a rowSizes rows textSizes texts now keeps kept asked upper lower finding findings read at_ costs ways reach))) (F0 zm 43 ls []) := by
    intro zn
    induction zn with
    | zero => intro rowSizes rows finding findings costs ways x2 x3 x4 x5 h; exact h.elim
    | succ zn ih43 =>
      intro rowSizes rows finding findings costs ways x2 x3 x4 x5 h H locs hP hD hS ls hl
      replace h : wb_X8_cheapest_43 now r post (wl_X8_cheapest_43 now r post zn) rowSizes rows finding findings costs ways x2 x3 x4 x5 := h
      unfold wb_X8_cheapest_43 at h
      refine lv_iload hx hb dX8_cheapest_43 (lv_at hl 5 rfl) ?_
      refine lv_iload hx hb dX8_cheapest_45 (lv_at hl 4 rfl) ?_
      refine lv_icmp_ge (tgt := 128) hx hb dX8_cheapest_47 (by decide) (fun hc => ?_) (fun hc => ?_)
      · have h := h.1 hc
        refine lv_iload_n hx hb dX8_cheapest_128 rfl (lv_at hl 3 rfl) ?_
        exact W.iret (v := x3) hx hb hr (fun zt ht hW => ⟨⟨x3, (rowSizes, rows, finding, findings, costs, ways), rfl, h, by rw [ht]; exact hP⟩, hS.F ht⟩) hS.2.2 dX8_cheapest_129
      · have h := h.2 hc
        refine lv_iconst (v := (0)) hx hb dX8_cheapest_50 (by decide) ?_
        refine lv_istore (lv' := [(6, .int (0 : Int32)), (0, .ref (a 0)), (1, .int r), (2, .int x2), (3, .int x3), (4, .int x4), (5, .int x5)]) hx hb dX8_cheapest_51 hl (by decide) rfl (fun ls hl => ?_)
        obtain ⟨zn, h⟩ := h
        exact w_53 _ ih43 zn rowSizes rows finding findings costs ways x2 x3 x4 x5 (0 : Int32) h _ _ hP hD hS ls (lv_sub hl [1, 2, 3, 4, 5, 6, 0] rfl)
  unfold wp_X8_cheapest at h
  refine lv_iload_n hx hb dX8_cheapest_0 rfl (lv_at hl 1 rfl) ?_
  refine rd_callz (va_runS (As := [.int r]) (rest := []) ⟨hx, hb, hml, hown, hts⟩ (c_X8_isRow l D ca   r _ h) (va_cwS 1 hts gX8_cheapest_X8_isRow rfl rfl rfl (by decide +kernel) ⟨Nat.le_of_ble_eq_true rfl, Nat.le_of_ble_eq_true rfl⟩) (PcX.preS hK (fun zk zq zh => by simp at zh)) rfl rfl hl.1 rfl (lv_room (Nat.le_of_ble_eq_true rfl)) dX8_cheapest_1 ⟨Nat.le_of_ble_eq_true rfl, Nat.le_of_ble_eq_true rfl⟩) (fun r1 h hz_r1 => ?_)
  try dsimp only at h
  refine lv_if_ne (tgt := 9) hx hb dX8_cheapest_4 (by decide) (fun hc => ?_) (fun hc => ?_)
  · have h := h.1 hc
    refine lv_aload_n hx hb dX8_cheapest_9 rfl (lv_at hl 0 rfl) ?_
    refine lv_bipush (v := (-9)) hx hb dX8_cheapest_10 (by decide) ?_
    refine wr_callv (ws1 := fun zu => W_X8 ca a rowSizes rows textSizes texts now keeps kept asked upper lower finding findings read at_ zu.1 zu.2 reach) (wr := ([] : List Nat).filterMap (fun zi => (W_X8 ca a rowSizes rows textSizes texts now keeps kept asked upper lower finding findings read at_ costs ways reach : va_W)[zi]?)) (n := 13) (va_runV (As := [.int (-9 : Int32)]) (rest := []) ⟨hx, hb, hml, hown, hts⟩ (c_X8_layOrders l D ca a rowSizes rows textSizes texts now keeps kept asked upper lower finding findings read at_ costs ways reach (-9 : Int32) _ (hD.subM [0, 1, 2, 3, 4, 5, 6, 7, 8, 9, 10, 11, 12] (by decide) rfl) h) (cwV 1 hts gX8_cheapest_X8_layOrders rfl rfl rfl (by decide +kernel) ⟨Nat.le_of_ble_eq_true rfl, Nat.le_of_ble_eq_true rfl⟩) (PcX.preV (q := (RX8, TX8, 17)) (ci := 7) (q0 := 0) hK hP rfl rfl hP) rfl rfl hl.1 rfl (lv_room (Nat.le_of_ble_eq_true rfl)) dX8_cheapest_12 ⟨Nat.le_of_ble_eq_true rfl, Nat.le_of_ble_eq_true rfl⟩) hP hD hS [0, 1, 2, 3, 4, 5, 6, 7, 8, 9, 10, 11, 12] [] rfl (fun _ => rfl) rfl (fun _ => rfl) (fun _ => rfl) (fun _ => rfl) (by decide +kernel) (by decide +kernel) (fun zu H locs h hP hD hS => ?_)
    obtain ⟨costs_2, ways_3⟩ := zu
    have hP : va_P D vwCl (W_X8 ca a rowSizes rows textSizes texts now keeps kept asked upper lower finding findings read at_ costs_2 ways_3 reach) H := hP
    have hD : va_D _ (W_X8 ca a rowSizes rows textSizes texts now keeps kept asked upper lower finding findings read at_ costs_2 ways_3 reach) := hD
    try dsimp only at h
    refine lv_aload_n hx hb dX8_cheapest_15 rfl (lv_at hl 0 rfl) ?_
    refine va_get (D := D) (ci := 7) (v := .ref (a 5)) (C := RX8) (T := TX8) (N := 17) hx hb hts hi_X8_cheapest_X8 hown hK.1 hP 0 rfl rfl 4 (by decide) (hts _ k_X8_cheapest_1) (fun _ h9 => h9) rfl dX8_cheapest_16 ?_
    refine lv_iconst (v := (2)) hx hb dX8_cheapest_19 (by decide) ?_
    refine x_iald (v := now 2) hx hb hK hP 5 rfl (vin_lit (by decide)) rfl dX8_cheapest_20 ?_
    refine lv_istore_n (lv' := [(2, .int (now 2)), (0, .ref (a 0)), (1, .int r)]) hx hb dX8_cheapest_21 rfl hl (by decide) rfl (fun ls hl => ?_)
    refine lv_aload_n hx hb dX8_cheapest_22 rfl (lv_at hl 1 rfl) ?_
    refine va_get (D := D) (ci := 7) (v := .ref (a 10)) (C := RX8) (T := TX8) (N := 17) hx hb hts hi_X8_cheapest_X8 hown hK.1 hP 0 rfl rfl 14 (by decide) (hts _ k_X8_cheapest_2) (fun _ h9 => h9) rfl dX8_cheapest_23 ?_
    refine lv_iload_n hx hb dX8_cheapest_26 rfl (lv_at hl 0 rfl) ?_
    obtain ⟨hi, h⟩ := h
    refine x_iald (v := costs_2 (now 2).toNatClampNeg) hx hb hK hP 10 rfl hi rfl dX8_cheapest_27 ?_
    refine lv_istore_n (lv' := [(3, .int (costs_2 (now 2).toNatClampNeg)), (2, .int (now 2)), (0, .ref (a 0)), (1, .int r)]) hx hb dX8_cheapest_28 rfl hl (by decide) rfl (fun ls hl => ?_)
    refine lv_aload_n hx hb dX8_cheapest_29 rfl (lv_at hl 2 rfl) ?_
    refine lv_iload_n hx hb dX8_cheapest_30 rfl (lv_at hl 3 rfl) ?_
    refine lv_iload_n hx hb dX8_cheapest_31 rfl (lv_at hl 1 rfl) ?_
    refine rd_calli (va_runS (As := [.int (now 2)]) (rest := [.int r, .ref (a 0)]) ⟨hx, hb, hml, hown, hts⟩ (c_X8_bits l D ca   (now 2) _ h) (va_cwS 1 hts gX8_cheapest_X8_bits rfl rfl rfl (by decide +kernel) ⟨Nat.le_of_ble_eq_true rfl, Nat.le_of_ble_eq_true rfl⟩) (PcX.preS hK (fun zk zq zh => by simp at zh)) rfl rfl hl.1 rfl (lv_room (Nat.le_of_ble_eq_true rfl)) dX8_cheapest_32 ⟨Nat.le_of_ble_eq_true rfl, Nat.le_of_ble_eq_true rfl⟩) (fun r4 h => ?_)
    try dsimp only at h
    refine wr_calli (ws1 := fun zu => W_X8 ca a zu.1 zu.2.1 textSizes texts now keeps kept asked upper lower zu.2.2.1 zu.2.2.2 read at_ costs_2 ways_3 reach) (wr := ([] : List Nat).filterMap (fun zi => (W_X8 ca a rowSizes rows textSizes texts now keeps kept asked upper lower finding findings read at_ costs_2 ways_3 reach : va_W)[zi]?)) (n := 13) (va_runV (As := [.int r, .int r4]) (rest := []) ⟨hx, hb, hml, hown, hts⟩ (c_X8_row l D ca a rowSizes rows textSizes texts now keeps kept asked upper lower finding findings read at_ costs_2 ways_3 reach r r4 _ (hD.subM [0, 1, 2, 3, 4, 5, 6, 7, 8, 9, 10, 11, 12] (by decide) rfl) h) (cwV 2 hts gX8_cheapest_X8_row rfl rfl rfl (by decide +kernel) ⟨Nat.le_of_ble_eq_true rfl, Nat.le_of_ble_eq_true rfl⟩) (PcX.preV (q := (RX8, TX8, 17)) (ci := 7) (q0 := 0) hK hP rfl rfl hP) rfl rfl hl.1 rfl (lv_room (Nat.le_of_ble_eq_true rfl)) dX8_cheapest_35 ⟨Nat.le_of_ble_eq_true rfl, Nat.le_of_ble_eq_true rfl⟩) hP hD hS [0, 1, 2, 3, 4, 5, 6, 7, 8, 9, 10, 11, 12] [] rfl (fun _ => rfl) rfl (fun _ => rfl) (fun _ => rfl) (fun _ => rfl) (by decide +kernel) (by decide +kernel) (fun r5 zu H locs h hP hD hS => ?_)
    obtain ⟨rowSizes_6, rows_7, finding_8, findings_9⟩ := zu
    have hP : va_P D vwCl (W_X8 ca a rowSizes_6 rows_7 textSizes texts now keeps kept asked upper lower finding_8 findings_9 read at_ costs_2 ways_3 reach) H := hP
    have hD : va_D _ (W_X8 ca a rowSizes_6 rows_7 textSizes texts now keeps kept asked upper lower finding_8 findings_9 read at_ costs_2 ways_3 reach) := hD
    try dsimp only at h
    refine lv_istore (lv' := [(4, .int r5), (3, .int (costs_2 (now 2).toNatClampNeg)), (2, .int (now 2)), (0, .ref (a 0)), (1, .int r)]) hx hb dX8_cheapest_38 hl (by decide) rfl (fun ls hl => ?_)
    refine lv_iconst (v := (0)) hx hb dX8_cheapest_40 (by decide) ?_
    refine lv_istore (lv' := [(5, .int (0 : Int32)), (4, .int r5), (3, .int (costs_2 (now 2).toNatClampNeg)), (2, .int (now 2)), (0, .ref (a 0)), (1, .int r)]) hx hb dX8_cheapest_41 hl (by decide) rfl (fun ls hl => ?_)
    obtain ⟨zn, h⟩ := h
    exact w_43  zn rowSizes_6 rows_7 finding_8 findings_9 costs_2 ways_3 (now 2) (costs_2 (now 2).toNatClampNeg) r5 (0 : Int32) h _ _ hP hD hS ls (lv_sub hl [4, 5, 3, 2, 1, 0] rfl)
  · have h := h.2 hc
    refine lv_iconst (v := (-1)) hx hb dX8_cheapest_7 (by decide) ?_
    exact W.iret (v := (-1 : Int32)) hx hb hr (fun zt ht hW => ⟨⟨(-1 : Int32), (rowSizes, rows, finding, findings, costs, ways), rfl, h, by rw [ht]; exact hP⟩, hS.F ht⟩) hS.2.2 dX8_cheapest_8

-- IronedQuarrelsModel.fraction(JJ)I
def wb_X8_fraction_6 (above : Int64) (below : Int64) (post : Int32 → (Int64) → (Int64) → Prop) (K6 : (Int64) → (Int64) → (Int64) → (Int64) → Prop) (upper : Int64) (lower : Int64) (x5 : Int64) (x7 : Int64) : Prop :=
  ((lg_cmp x7 (0 : Int64)) = 0 → (¬ x5 = 0 ∧ ¬ x5 = 0 ∧ post (1 : Int32) (above / x5) (below / x5))) ∧ (¬ (lg_cmp x7 (0 : Int64)) = 0 → (¬ x7 = 0 ∧ K6 upper lower x7 (x5 - x5 / x7 * x7)))
def wl_X8_fraction_6 (above : Int64) (below : Int64) (post : Int32 → (Int64) → (Int64) → Prop) : Nat → (Int64) → (Int64) → (Int64) → (Int64) → Prop
  | 0 => fun _ _ _ _ => False
  | zn + 1 => wb_X8_fraction_6 above below post (wl_X8_fraction_6 above below post zn)
def wp_X8_fraction (upper : Int64) (lower : Int64) (above : Int64) (below : Int64) (post : Int32 → (Int64) → (Int64) → Prop) : Prop :=
  ∃ zn, wl_X8_fraction_6 above below post zn upper lower above below
def rm_X8_fraction : Room := { frames := 0, cells := 0, slots := 0, locals := 0 }
theorem k_X8_fraction_1 : Cond.fieldLink RX8 177 "IronedQuarrelsModel" "upper" "J" ∈ wsX8_fraction := List.mem_of_getElem? (i := 1) (by decide +kernel)
theorem k_X8_fraction_2 : Cond.fieldLink RX8 32 "IronedQuarrelsModel" "lower" "J" ∈ wsX8_fraction := List.mem_of_getElem? (i := 2) (by decide +kernel)
theorem hi_X8_fraction_X8 : ∀ w ∈ wsX80, w ∈ wsX8_fraction := fun w h => List.mem_cons_of_mem _ (List.mem_append_right _ h)
set_option maxHeartbeats 4000000 in
set_option maxRecDepth 100000 in
theorem c_X8_fraction (l : Launch) (D : va_G) (ca : Nat → ClassId) (a : Nat → Nat) (rowSizes : Nat → Int32) (rows : Nat → Int32) (textSizes : Nat → Int32) (texts : Nat → Int32) (now : Nat → Int32) (keeps : Nat → Int32) (kept : Nat → Int32) (asked : Int32) (upper : Int64) (lower : Int64) (finding : Int32) (findings : Nat → Int32) (read : Nat → Int32) (at_ : Int32) (costs : Nat → Int32) (ways : Nat → Int64) (reach : Nat → Int32) (above : Int64) (below : Int64) (post : Int32 → (Int64) → (Int64) → Prop) (hd : va_D (fun _ => True) (W_X8 ca a rowSizes rows textSizes texts now keeps kept asked upper lower finding findings read at_ costs ways reach)) (h : wp_X8_fraction upper lower above below post) : Met l yX8_fraction wsX8_fraction rm_X8_fraction (PcX D ca [.ref (a 0), .long above, .long below] (W_X8 ca a rowSizes rows textSizes texts now keeps kept asked upper lower finding findings read at_ costs ways reach)) (wrI (S := (Int64) × (Int64)) D (W_X8 ca a rowSizes rows textSizes texts now keeps kept asked upper lower finding findings read at_ costs ways reach) (fun zu => W_X8 ca a rowSizes rows textSizes texts now keeps kept asked zu.1 zu.2 finding findings read at_ costs ways reach) (fun zr zu => post zr zu.1 zu.2)) 0 0 (adr (W_X8 ca a rowSizes rows textSizes texts now keeps kept asked upper lower finding findings read at_ costs ways reach)) := by
  refine Met.ofW (cc := cX8_fraction) (maxL := 11) (ret := (some .int)) (by decide) rfl ?_
  intro zp ze zs zm za zb zt zc z1 B hml hv
  obtain ⟨rfl, hP, hK⟩ := hv
  have hx := B.exec
  have hb := B.bytes
  have hr := B.returns
  have hts := atoms_spec (ws := wsX8_fraction) B.pre
  have hown : zs.vm.findClass RX8 = some zm.cls := findClass_of_methodNamed B.named
  have hlocks := B.notSynchronized
  have hD : va_D (adr (W_X8 ca a rowSizes rows textSizes texts now keeps kept asked upper lower finding findings read at_ costs ways reach)) (W_X8 ca a rowSizes rows textSizes texts now keeps kept asked upper lower finding findings read at_ costs ways reach) := hd.adr
  have hS : va_S (adr (W_X8 ca a rowSizes rows textSizes texts now keeps kept asked upper lower finding findings read at_ costs ways reach)) zs.heap zs.heap [] := va_S.rf
  have hl := lv_entry ([.ref (a 0), .long above, .long below]) (n := 11) (Nat.le_of_ble_eq_true rfl)
  rw [lg_entry_eq]
  generalize (lg_sl ([.ref (a 0), .long above, .long below]) ++ List.replicate (11 - (lg_sl ([.ref (a 0), .long above, .long below])).length) Slot.unset).toArray = ls at hl ⊢
  replace hl : lv_has ls 11 [(0, .ref (a 0)), (1, .long above), (3, .long below)] := hl
  show W zp l ze rm_X8_fraction zs zm ([.ref (a 0), .long above, .long below] : List Value).toArray zb zt zc zs.heap [] 0 0 (MQ zb (wrI (S := (Int64) × (Int64)) D (W_X8 ca a rowSizes rows textSizes texts now keeps kept asked upper lower finding findings read at_ costs ways reach) (fun zu => W_X8 ca a rowSizes rows textSizes texts now keeps kept asked zu.1 zu.2 finding findings read at_ costs ways reach) (fun zr zu => post zr zu.1 zu.2)) ([.ref (a 0), .long above, .long below] : List Value).toArray zs 0 0 (adr (W_X8 ca a rowSizes rows textSizes texts now keeps kept asked upper lower finding findings read at_ costs ways reach))) (F0 zm 0 ls [])
  have w_6 : ∀ (zn : Nat) (upper : Int64) (lower : Int64) (x5 : Int64) (x7 : Int64), wl_X8_fraction_6 above below post zn upper lower x5 x7 → ∀ (H : Heap) (locs : List Loc), va_P D vwCl (W_X8 ca a rowSizes rows textSizes texts now keeps kept asked upper lower finding findings read at_ costs ways reach) H → va_D (adr (W_X8 ca a rowSizes rows textSizes texts now keeps kept asked upper lower finding findings read at_ costs ways reach)) (W_X8 ca a rowSizes rows textSizes texts now keeps kept asked upper lower finding findings read at_ costs ways reach) → va_S (adr (W_X8 ca a rowSizes rows textSizes texts now keeps kept asked upper lower finding findings read at_ costs ways reach)) zs.heap H locs → ∀ ls : Array Slot, lv_has ls 11 [(0, .ref (a 0)), (1, .long above), (3, .long below), (5, .long x5), (7, .long x7)] → W zp l ze rm_X8_fraction zs zm ([.ref (a 0), .long above, .long below] : List Value).toArray zb zt zc H locs 0 0 (MQ zb (wrI (S := (Int64) × (Int64)) D (W_X8 ca a rowSizes rows textSizes texts now keeps kept asked upper lower finding findings read at_ costs ways reach) (fun zu => W_X8 ca a rowSizes rows textSizes texts now keeps kept asked zu.1 zu.2 finding findings read at_ costs ways reach) (fun zr zu => post zr zu.1 zu.2)) ([.ref (a 0), .long above, .long below] : List Value).toArray zs 0 0 (adr (W_X8 ca a rowSizes rows textSizes texts now keeps kept asked upper lower finding findings read at_ costs ways reach))) (F0 zm 6 ls []) := by
    intro zn
    induction zn with
    | zero => intro upper lower x5 x7 h; exact h.elim
    | succ zn ih6 =>
      intro upper lower x5 x7 h H locs hP hD hS ls hl
      replace h : wb_X8_fraction_6 above below post (wl_X8_fraction_6 above below post zn) upper lower x5 x7 := h
      unfold wb_X8_fraction_6 at h
      refine lv_lload hx hb dX8_fraction_6 (lv_at hl 4 rfl) ?_
      refine lv_lconst (v := (0)) hx hb dX8_fraction_8 (by decide) ?_
      refine W.lcmp hx hb dX8_fraction_9 ?_
      refine lv_if_eq (tgt := 31) hx hb dX8_fraction_10 (by decide) (fun hc => ?_) (fun hc => ?_)
      · have h := h.1 hc
        refine lv_aload_n hx hb dX8_fraction_31 rfl (lv_at hl 0 rfl) ?_
        refine lv_lload_n hx hb dX8_fraction_32 rfl (lv_at hl 1 rfl) ?_
        refine lv_lload hx hb dX8_fraction_33 (lv_at hl 3 rfl) ?_
        obtain ⟨h0, h⟩ := h
        refine lv_ldiv hx hb dX8_fraction_35 h0 ?_
        refine va_put (D := D) (ci := 7) (v := .long (above / x5)) (ty := .long) (C := RX8) (T := TX8) (N := 17) hx hb hts hi_X8_fraction_X8 tyX8 tyX8_ok nmX8 hown hK.1 hP hD hS 0 rfl rfl 8 (by decide) (hts _ k_X8_fraction_1) (fun _ h9 => h9) rfl (by decide +kernel) rfl rfl (Nat.le_of_ble_eq_true rfl) dX8_fraction_36 (fun H locs hP hD hS => ?_)
        have hP : va_P D vwCl (W_X8 ca a rowSizes rows textSizes texts now keeps kept asked (above / x5) lower finding findings read at_ costs ways reach) H := hP
        have hD : va_D _ (W_X8 ca a rowSizes rows textSizes texts now keeps kept asked (above / x5) lower finding findings read at_ costs ways reach) := hD
        refine lv_aload_n hx hb dX8_fraction_39 rfl (lv_at hl 0 rfl) ?_
        refine lv_lload_n hx hb dX8_fraction_40 rfl (lv_at hl 2 rfl) ?_
        refine lv_lload hx hb dX8_fraction_41 (lv_at hl 3 rfl) ?_
        obtain ⟨h0, h⟩ := h
        refine lv_ldiv hx hb dX8_fraction_43 h0 ?_
        refine va_put (D := D) (ci := 7) (v := .long (below / x5)) (ty := .long) (C := RX8) (T := TX8) (N := 17) hx hb hts hi_X8_fraction_X8 tyX8 tyX8_ok nmX8 hown hK.1 hP hD hS 0 rfl rfl 9 (by decide) (hts _ k_X8_fraction_2) (fun _ h9 => h9) rfl (by decide +kernel) rfl rfl (Nat.le_of_ble_eq_true rfl) dX8_fraction_44 (fun H locs hP hD hS => ?_)
        have hP : va_P D vwCl (W_X8 ca a rowSizes rows textSizes texts now keeps kept asked (above / x5) (below / x5) finding findings read at_ costs ways reach) H := hP
        have hD : va_D _ (W_X8 ca a rowSizes rows textSizes texts now keeps kept asked (above / x5) (below / x5) finding findings read at_ costs ways reach) := hD
        refine lv_iconst (v := (1)) hx hb dX8_fraction_47 (by decide) ?_
        exact W.iret (v := (1 : Int32)) hx hb hr (fun zt ht hW => ⟨⟨(1 : Int32), (above / x5, below / x5), rfl, h, by rw [ht]; exact hP⟩, hS.F ht⟩) hS.2.2 dX8_fraction_48
      · have h := h.2 hc
        refine lv_lload hx hb dX8_fraction_13 (lv_at hl 3 rfl) ?_
        refine lv_lload hx hb dX8_fraction_15 (lv_at hl 4 rfl) ?_
        obtain ⟨h0, h⟩ := h
        refine lv_lrem hx hb dX8_fraction_17 h0 ?_
        refine lv_lstore (lv' := [(9, .long (x5 - x5 / x7 * x7)), (0, .ref (a 0)), (1, .long above), (3, .long below), (5, .long x5), (7, .long x7)]) hx hb dX8_fraction_18 hl (by decide) rfl (fun ls hl => ?_)
        refine lv_lload hx hb dX8_fraction_20 (lv_at hl 5 rfl) ?_
        refine lv_lstore (lv' := [(5, .long x7), (9, .long (x5 - x5 / x7 * x7)), (0, .ref (a 0)), (1, .long above), (3, .long below), (7, .long x7)]) hx hb dX8_fraction_22 hl (by decide) rfl (fun ls hl => ?_)
        refine lv_lload hx hb dX8_fraction_24 (lv_at hl 1 rfl) ?_
        refine lv_lstore (lv' := [(7, .long (x5 - x5 / x7 * x7)), (5, .long x7), (9, .long (x5 - x5 / x7 * x7)), (0, .ref (a 0)), (1, .long above), (3, .long below)]) hx hb dX8_fraction_26 hl (by decide) rfl (fun ls hl => ?_)
        refine lv_goto (tgt := 6) hx hb dX8_fraction_28 (by decide) ?_
        exact ih6 upper lower x7 (x5 - x5 / x7 * x7) h _ _ hP hD hS ls (lv_sub hl [3, 4, 5, 1, 0] rfl)
  unfold wp_X8_fraction at h
  refine lv_lload_n hx hb dX8_fraction_0 rfl (lv_at hl 1 rfl) ?_
  refine lv_lstore (lv' := [(5, .long above), (0, .ref (a 0)), (1, .long above), (3, .long below)]) hx hb dX8_fraction_1 hl (by decide) rfl (fun ls hl => ?_)
  refine lv_lload_n hx hb dX8_fraction_3 rfl (lv_at hl 3 rfl) ?_
  refine lv_lstore (lv' := [(7, .long below), (5, .long above), (0, .ref (a 0)), (1, .long above), (3, .long below)]) hx hb dX8_fraction_4 hl (by decide) rfl (fun ls hl => ?_)
  obtain ⟨zn, h⟩ := h
  exact w_6  zn upper lower above below h _ _ hP hD hS ls (lv_sub hl [2, 3, 4, 1, 0] rfl)

-- IronedQuarrelsModel.orders()I
def wp_X8_orders (now : Nat → Int32) (upper : Int64) (lower : Int64) (costs : Nat → Int32) (ways : Nat → Int64) (post : Int32 → (Int64) → (Int64) → (Nat → Int32) → (Nat → Int64) → Prop) : Prop :=
  wp_X8_layOrders now costs ways (-9 : Int32) (fun costs_1 ways_2 => vp_in (now 2) 4096 ∧ wp_X8_fraction upper lower (ways_2 (now 2).toNatClampNeg) (1 : Int64) (fun r3 upper_4 lower_5 => post r3 upper_4 lower_5 costs_1 ways_2))
def rm_X8_orders : Room := { frames := 4, cells := 0, slots := 0, locals := 96 }
theorem k_X8_orders_1 : Cond.fieldLink RX8 45 "IronedQuarrelsModel" "ways" "[J" ∈ wsX8_orders := List.mem_of_getElem? (i := 1) (by decide +kernel)
theorem k_X8_orders_2 : Cond.fieldLink RX8 22 "IronedQuarrelsModel" "now" "[I" ∈ wsX8_orders := List.mem_of_getElem? (i := 2) (by decide +kernel)
theorem hi_X8_orders_X8 : ∀ w ∈ wsX80, w ∈ wsX8_orders := fun w h => List.mem_cons_of_mem _ (List.mem_append_right _ h)
set_option maxHeartbeats 4000000 in
set_option maxRecDepth 100000 in
theorem c_X8_orders (l : Launch) (D : va_G) (ca : Nat → ClassId) (a : Nat → Nat) (rowSizes : Nat → Int32) (rows : Nat → Int32) (textSizes : Nat → Int32) (texts : Nat → Int32) (now : Nat → Int32) (keeps : Nat → Int32) (kept : Nat → Int32) (asked : Int32) (upper : Int64) (lower : Int64) (finding : Int32) (findings : Nat → Int32) (read : Nat → Int32) (at_ : Int32) (costs : Nat → Int32) (ways : Nat → Int64) (reach : Nat → Int32)  (post : Int32 → (Int64) → (Int64) → (Nat → Int32) → (Nat → Int64) → Prop) (hd : va_D (fun _ => True) (W_X8 ca a rowSizes rows textSizes texts now keeps kept asked upper lower finding findings read at_ costs ways reach)) (h : wp_X8_orders now upper lower costs ways post) : Met l yX8_orders wsX8_orders rm_X8_orders (PcX D ca [.ref (a 0)] (W_X8 ca a rowSizes rows textSizes texts now keeps kept asked upper lower finding findings read at_ costs ways reach)) (wrI (S := (Int64) × (Int64) × (Nat → Int32) × (Nat → Int64)) D (W_X8 ca a rowSizes rows textSizes texts now keeps kept asked upper lower finding findings read at_ costs ways reach) (fun zu => W_X8 ca a rowSizes rows textSizes texts now keeps kept asked zu.1 zu.2.1 finding findings read at_ zu.2.2.1 zu.2.2.2 reach) (fun zr zu => post zr zu.1 zu.2.1 zu.2.2.1 zu.2.2.2)) 0 0 (adr (W_X8 ca a rowSizes rows textSizes texts now keeps kept asked upper lower finding findings read at_ costs ways reach)) := by
  refine Met.ofW (cc := cX8_orders) (maxL := 1) (ret := (some .int)) (by decide) rfl ?_
  intro zp ze zs zm za zb zt zc z1 B hml hv
  obtain ⟨rfl, hP, hK⟩ := hv
  have hx := B.exec
  have hb := B.bytes
  have hr := B.returns
  have hts := atoms_spec (ws := wsX8_orders) B.pre
  have hown : zs.vm.findClass RX8 = some zm.cls := findClass_of_methodNamed B.named
  have hlocks := B.notSynchronized
  have hD : va_D (adr (W_X8 ca a rowSizes rows textSizes texts now keeps kept asked upper lower finding findings read at_ costs ways reach)) (W_X8 ca a rowSizes rows textSizes texts now keeps kept asked upper lower finding findings read at_ costs ways reach) := hd.adr
  have hS : va_S (adr (W_X8 ca a rowSizes rows textSizes texts now keeps kept asked upper lower finding findings read at_ costs ways reach)) zs.heap zs.heap [] := va_S.rf
  have hl := lv_entry ([.ref (a 0)]) (n := 1) (Nat.le_of_ble_eq_true rfl)
  rw [lg_entry_eq]
  generalize (lg_sl ([.ref (a 0)]) ++ List.replicate (1 - (lg_sl ([.ref (a 0)])).length) Slot.unset).toArray = ls at hl ⊢
  replace hl : lv_has ls 1 [(0, .ref (a 0))] := hl
  show W zp l ze rm_X8_orders zs zm ([.ref (a 0)] : List Value).toArray zb zt zc zs.heap [] 0 0 (MQ zb (wrI (S := (Int64) × (Int64) × (Nat → Int32) × (Nat → Int64)) D (W_X8 ca a rowSizes rows textSizes texts now keeps kept asked upper lower finding findings read at_ costs ways reach) (fun zu => W_X8 ca a rowSizes rows textSizes texts now keeps kept asked zu.1 zu.2.1 finding findings read at_ zu.2.2.1 zu.2.2.2 reach) (fun zr zu => post zr zu.1 zu.2.1 zu.2.2.1 zu.2.2.2)) ([.ref (a 0)] : List Value).toArray zs 0 0 (adr (W_X8 ca a rowSizes rows textSizes texts now keeps kept asked upper lower finding findings read at_ costs ways reach))) (F0 zm 0 ls [])
  unfold wp_X8_orders at h
  refine lv_aload_n hx hb dX8_orders_0 rfl (lv_at hl 0 rfl) ?_
  refine lv_bipush (v := (-9)) hx hb dX8_orders_1 (by decide) ?_
  refine wr_callv (ws1 := fun zu => W_X8 ca a rowSizes rows textSizes texts now keeps kept asked upper lower finding findings read at_ zu.1 zu.2 reach) (wr := ([] : List Nat).filterMap (fun zi => (W_X8 ca a rowSizes rows textSizes texts now keeps kept asked upper lower finding findings read at_ costs ways reach : va_W)[zi]?)) (n := 13) (va_runV (As := [.int (-9 : Int32)]) (rest := []) ⟨hx, hb, hml, hown, hts⟩ (c_X8_layOrders l D ca a rowSizes rows textSizes texts now keeps kept asked upper lower finding findings read at_ costs ways reach (-9 : Int32) _ (hD.subM [0, 1, 2, 3, 4, 5, 6, 7, 8, 9, 10, 11, 12] (by decide) rfl) h) (cwV 1 hts gX8_orders_X8_layOrders rfl rfl rfl (by decide +kernel) ⟨Nat.le_of_ble_eq_true rfl, Nat.le_of_ble_eq_true rfl⟩) (PcX.preV (q := (RX8, TX8, 17)) (ci := 7) (q0 := 0) hK hP rfl rfl hP) rfl rfl hl.1 rfl (lv_room (Nat.le_of_ble_eq_true rfl)) dX8_orders_3 ⟨Nat.le_of_ble_eq_true rfl, Nat.le_of_ble_eq_true rfl⟩) hP hD hS [0, 1, 2, 3, 4, 5, 6, 7, 8, 9, 10, 11, 12] [] rfl (fun _ => rfl) rfl (fun _ => rfl) (fun _ => rfl) (fun _ => rfl) (by decide +kernel) (by decide +kernel) (fun zu H locs h hP hD hS => ?_)
  obtain ⟨costs_1, ways_2⟩ := zu
  have hP : va_P D vwCl (W_X8 ca a rowSizes rows textSizes texts now keeps kept asked upper lower finding findings read at_ costs_1 ways_2 reach) H := hP
  have hD : va_D _ (W_X8 ca a rowSizes rows textSizes texts now keeps kept asked upper lower finding findings read at_ costs_1 ways_2 reach) := hD
  try dsimp only at h
  refine lv_aload_n hx hb dX8_orders_6 rfl (lv_at hl 0 rfl) ?_
  refine lv_aload_n hx hb dX8_orders_7 rfl (lv_at hl 0 rfl) ?_
  refine va_get (D := D) (ci := 7) (v := .ref (a 11)) (C := RX8) (T := TX8) (N := 17) hx hb hts hi_X8_orders_X8 hown hK.1 hP 0 rfl rfl 15 (by decide) (hts _ k_X8_orders_1) (fun _ h9 => h9) rfl dX8_orders_8 ?_
  refine lv_aload_n hx hb dX8_orders_11 rfl (lv_at hl 0 rfl) ?_
  refine va_get (D := D) (ci := 7) (v := .ref (a 5)) (C := RX8) (T := TX8) (N := 17) hx hb hts hi_X8_orders_X8 hown hK.1 hP 0 rfl rfl 4 (by decide) (hts _ k_X8_orders_2) (fun _ h9 => h9) rfl dX8_orders_12 ?_
  refine lv_iconst (v := (2)) hx hb dX8_orders_15 (by decide) ?_
  refine x_iald (v := now 2) hx hb hK hP 5 rfl (vin_lit (by decide)) rfl dX8_orders_16 ?_
  obtain ⟨hi, h⟩ := h
  refine x_lald (v := ways_2 (now 2).toNatClampNeg) hx hb hK hP 11 rfl hi rfl dX8_orders_17 ?_
  refine lv_lconst (v := (1)) hx hb dX8_orders_18 (by decide) ?_
  refine wr_calli (ws1 := fun zu => W_X8 ca a rowSizes rows textSizes texts now keeps kept asked zu.1 zu.2 finding findings read at_ costs_1 ways_2 reach) (wr := ([] : List Nat).filterMap (fun zi => (W_X8 ca a rowSizes rows textSizes texts now keeps kept asked upper lower finding findings read at_ costs_1 ways_2 reach : va_W)[zi]?)) (n := 13) (va_runV (As := [.long (ways_2 (now 2).toNatClampNeg), .long (1 : Int64)]) (rest := []) ⟨hx, hb, hml, hown, hts⟩ (c_X8_fraction l D ca a rowSizes rows textSizes texts now keeps kept asked upper lower finding findings read at_ costs_1 ways_2 reach (ways_2 (now 2).toNatClampNeg) (1 : Int64) _ (hD.subM [0, 1, 2, 3, 4, 5, 6, 7, 8, 9, 10, 11, 12] (by decide) rfl) h) (cwV 2 hts gX8_orders_X8_fraction rfl rfl rfl (by decide +kernel) ⟨Nat.le_of_ble_eq_true rfl, Nat.le_of_ble_eq_true rfl⟩) (PcX.preV (q := (RX8, TX8, 17)) (ci := 7) (q0 := 0) hK hP rfl rfl hP) rfl rfl hl.1 rfl (lv_room (Nat.le_of_ble_eq_true rfl)) dX8_orders_19 ⟨Nat.le_of_ble_eq_true rfl, Nat.le_of_ble_eq_true rfl⟩) hP hD hS [0, 1, 2, 3, 4, 5, 6, 7, 8, 9, 10, 11, 12] [] rfl (fun _ => rfl) rfl (fun _ => rfl) (fun _ => rfl) (fun _ => rfl) (by decide +kernel) (by decide +kernel) (fun r3 zu H locs h hP hD hS => ?_)
  obtain ⟨upper_4, lower_5⟩ := zu
  have hP : va_P D vwCl (W_X8 ca a rowSizes rows textSizes texts now keeps kept asked upper_4 lower_5 finding findings read at_ costs_1 ways_2 reach) H := hP
  have hD : va_D _ (W_X8 ca a rowSizes rows textSizes texts now keeps kept asked upper_4 lower_5 finding findings read at_ costs_1 ways_2 reach) := hD
  try dsimp only at h
  exact W.iret (v := r3) hx hb hr (fun zt ht hW => ⟨⟨r3, (upper_4, lower_5, costs_1, ways_2), rfl, h, by rw [ht]; exact hP⟩, hS.F ht⟩) hS.2.2 dX8_orders_22

-- IronedQuarrelsModel.judge(I)I
def wb_X8_judge_161 (post : Int32 → (Int32) → (Int32) → (Nat → Int32) → Prop) (asked : Int32) (finding : Int32) (findings : Nat → Int32) (x5 : Int32) (s0 : Int32) : Prop :=
  wp_X8_answer s0 x5 (fun r2 asked_3 => post r2 asked_3 finding findings)
def wb_X8_judge_159 (post : Int32 → (Int32) → (Int32) → (Nat → Int32) → Prop) (asked : Int32) (finding : Int32) (findings : Nat → Int32) (x5 : Int32) : Prop :=
  wb_X8_judge_161 post asked finding findings x5 (-9 : Int32)
def wb_X8_judge_143 (post : Int32 → (Int32) → (Int32) → (Nat → Int32) → Prop) (asked : Int32) (finding : Int32) (findings : Nat → Int32) (x2 : Int32) (x3 : Int32) (x4 : Int32) (x5 : Int32) : Prop :=
  (¬ x5 = x2 → (wb_X8_judge_159 post asked finding findings x5)) ∧ (x5 = x2 → ((¬ x3 = 0 → (wb_X8_judge_159 post asked finding findings x5)) ∧ (x3 = 0 → (wb_X8_judge_161 post asked finding findings x5 x4))))
def wb_X8_judge_76 (rows : Nat → Int32) (now : Nat → Int32) (r : Int32) (post : Int32 → (Int32) → (Int32) → (Nat → Int32) → Prop) (K76 : (Int32) → (Int32) → (Nat → Int32) → (Int32) → (Int32) → (Int32) → (Int32) → Prop) (asked : Int32) (finding : Int32) (findings : Nat → Int32) (x2 : Int32) (x3 : Int32) (x4 : Int32) (x5 : Int32) : Prop :=
  (x2 ≤ x5 → (wb_X8_judge_143 post asked finding findings x2 x3 x4 x5)) ∧ (¬ x2 ≤ x5 → (vp_in (((40 : Int32) * r) + x5) 240 ∧ wp_X8_mayBe now (rows (((40 : Int32) * r) + x5).toNatClampNeg) x3 (fun r4 => (r4 = 0 → (wb_X8_judge_143 post asked finding findings x2 x3 x4 x5)) ∧ (¬ r4 = 0 → (vp_in (((40 : Int32) * r) + x5) 240 ∧ wp_X8_price now (rows (((40 : Int32) * r) + x5).toNatClampNeg) x3 (fun r5 => K76 asked finding findings x2 (x3 &&& (((1 : Int32) <<< ((rows (((40 : Int32) * r) + x5).toNatClampNeg) &&& 31)) ^^^ (-1 : Int32))) (x4 + r5) (x5 + 1)))))))
def wl_X8_judge_76 (rows : Nat → Int32) (now : Nat → Int32) (r : Int32) (post : Int32 → (Int32) → (Int32) → (Nat → Int32) → Prop) : Nat → (Int32) → (Int32) → (Nat → Int32) → (Int32) → (Int32) → (Int32) → (Int32) → Prop
  | 0 => fun _ _ _ _ _ _ _ => False
  | zn + 1 => wb_X8_judge_76 rows now r post (wl_X8_judge_76 rows now r post zn)
def wb_X8_judge_28 (rows : Nat → Int32) (now : Nat → Int32) (r : Int32) (post : Int32 → (Int32) → (Int32) → (Nat → Int32) → Prop) (K28 : (Int32) → (Int32) → (Nat → Int32) → (Int32) → (Int32) → Prop) (asked : Int32) (finding : Int32) (findings : Nat → Int32) (x2 : Int32) (x3 : Int32) : Prop :=
  (x2 ≤ x3 → (∃ zn, wl_X8_judge_76 rows now r post zn asked finding findings x2 (now 2) (0 : Int32) (0 : Int32))) ∧ (¬ x2 ≤ x3 → (vp_in (((40 : Int32) * r) + x3) 240 ∧ wp_X8_isSaying now (rows (((40 : Int32) * r) + x3).toNatClampNeg) (fun r6 => (¬ r6 = 0 → (K28 asked finding findings x2 (x3 + 1))) ∧ (r6 = 0 → (wp_X8_found findings (3 : Int32) (fun r7 finding_8 findings_9 => post r7 asked finding_8 findings_9))))))
def wl_X8_judge_28 (rows : Nat → Int32) (now : Nat → Int32) (r : Int32) (post : Int32 → (Int32) → (Int32) → (Nat → Int32) → Prop) : Nat → (Int32) → (Int32) → (Nat → Int32) → (Int32) → (Int32) → Prop
  | 0 => fun _ _ _ _ _ => False
  | zn + 1 => wb_X8_judge_28 rows now r post (wl_X8_judge_28 rows now r post zn)
def wp_X8_judge (rowSizes : Nat → Int32) (rows : Nat → Int32) (now : Nat → Int32) (asked : Int32) (finding : Int32) (findings : Nat → Int32) (r : Int32) (post : Int32 → (Int32) → (Int32) → (Nat → Int32) → Prop) : Prop :=
  wp_X8_isRow r (fun r1 => (¬ r1 = 0 → (vp_in r 6 ∧ (0 ≤ (rowSizes r.toNatClampNeg) → (∃ zn, wl_X8_judge_28 rows now r post zn asked finding findings (rowSizes r.toNatClampNeg) (0 : Int32))) ∧ (¬ 0 ≤ (rowSizes r.toNatClampNeg) → (wp_X8_found findings (1 : Int32) (fun r10 finding_11 findings_12 => post r10 asked finding_11 findings_12))))) ∧ (r1 = 0 → (post (-1 : Int32) asked finding findings)))
def rm_X8_judge : Room := { frames := 3, cells := 0, slots := 0, locals := 70 }
theorem k_X8_judge_1 : Cond.fieldLink RX8 7 "IronedQuarrelsModel" "rowSizes" "[I" ∈ wsX8_judge := List.mem_of_getElem? (i := 1) (by decide +kernel)
theorem k_X8_judge_2 : Cond.fieldLink RX8 13 "IronedQuarrelsModel" "rows" "[I" ∈ wsX8_judge := List.mem_of_getElem? (i := 2) (by decide +kernel)
theorem k_X8_judge_3 : Cond.fieldLink RX8 22 "IronedQuarrelsModel" "now" "[I" ∈ wsX8_judge := List.mem_of_getElem? (i := 3) (by decide +kernel)
theorem hi_X8_judge_X8 : ∀ w ∈ wsX80, w ∈ wsX8_judge := fun w h => List.mem_cons_of_mem _ (List.mem_append_right _ h)
set_option maxHeartbeats 4000000 in
set_option maxRecDepth 100000 in
theorem c_X8_judge (l : Launch) (D : va_G) (ca : Nat → ClassId) (a : Nat → Nat) (rowSizes : Nat → Int32) (rows : Nat → Int32) (textSizes : Nat → Int32) (texts : Nat → Int32) (now : Nat → Int32) (keeps : Nat → Int32) (kept : Nat → Int32) (asked : Int32) (upper : Int64) (lower : Int64) (finding : Int32) (findings : Nat → Int32) (read : Nat → Int32) (at_ : Int32) (costs : Nat → Int32) (ways : Nat → Int64) (reach : Nat → Int32) (r : Int32) (post : Int32 → (Int32) → (Int32) → (Nat → Int32) → Prop) (hd : va_D (fun _ => True) (W_X8 ca a rowSizes rows textSizes texts now keeps kept asked upper lower finding findings read at_ costs ways reach)) (h : wp_X8_judge rowSizes rows now asked finding findings r post) : Met l yX8_judge wsX8_judge rm_X8_judge (PcX D ca [.ref (a 0), .int r] (W_X8 ca a rowSizes rows textSizes texts now keeps kept asked upper lower finding findings read at_ costs ways reach)) (wrI (S := (Int32) × (Int32) × (Nat → Int32)) D (W_X8 ca a rowSizes rows textSizes texts now keeps kept asked upper lower finding findings read at_ costs ways reach) (fun zu => W_X8 ca a rowSizes rows textSizes texts now keeps kept zu.1 upper lower zu.2.1 zu.2.2 read at_ costs ways reach) (fun zr zu => post zr zu.1 zu.2.1 zu.2.2)) 0 0 (adr (W_X8 ca a rowSizes rows textSizes texts now keeps kept asked upper lower finding findings read at_ costs ways reach)) := by
  refine Met.ofW (cc := cX8_judge) (maxL := 7) (ret := (some .int)) (by decide) rfl ?_
  intro zp ze zs zm za zb zt zc z1 B hml hv
  obtain ⟨rfl, hP, hK⟩ := hv
  have hx := B.exec
  have hb := B.bytes
  have hr := B.returns
  have hts := atoms_spec (ws := wsX8_judge) B.pre
  have hown : zs.vm.findClass RX8 = some zm.cls := findClass_of_methodNamed B.named
  have hlocks := B.notSynchronized
  have hD : va_D (adr (W_X8 ca a rowSizes rows textSizes texts now keeps kept asked upper lower finding findings read at_ costs ways reach)) (W_X8 ca a rowSizes rows textSizes texts now keeps kept asked upper lower finding findings read at_ costs ways reach) := hd.adr
  have hS : va_S (adr (W_X8 ca a rowSizes rows textSizes texts now keeps kept asked upper lower finding findings read at_ costs ways reach)) zs.heap zs.heap [] := va_S.rf
  have hl := lv_entry ([.ref (a 0), .int r]) (n := 7) (Nat.le_of_ble_eq_true rfl)
  rw [lg_entry_eq]
  generalize (lg_sl ([.ref (a 0), .int r]) ++ List.replicate (7 - (lg_sl ([.ref (a 0), .int r])).length) Slot.unset).toArray = ls at hl ⊢
  replace hl : lv_has ls 7 [(0, .ref (a 0)), (1, .int r)] := hl
  show W zp l ze rm_X8_judge zs zm ([.ref (a 0), .int r] : List Value).toArray zb zt zc zs.heap [] 0 0 (MQ zb (wrI (S := (Int32) × (Int32) × (Nat → Int32)) D (W_X8 ca a rowSizes rows textSizes texts now keeps kept asked upper lower finding findings read at_ costs ways reach) (fun zu => W_X8 ca a rowSizes rows textSizes texts now keeps kept zu.1 upper lower zu.2.1 zu.2.2 read at_ costs ways reach) (fun zr zu => post zr zu.1 zu.2.1 zu.2.2)) ([.ref (a 0), .int r] : List Value).toArray zs 0 0 (adr (W_X8 ca a rowSizes rows textSizes texts now keeps kept asked upper lower finding findings read at_ costs ways reach))) (F0 zm 0 ls [])
  have w_161 : ∀ (asked : Int32) (finding : Int32) (findings : Nat → Int32) (x5 : Int32) (s0 : Int32), wb_X8_judge_161 post asked finding findings x5 s0 → ∀ (H : Heap) (locs : List Loc), va_P D vwCl (W_X8 ca a rowSizes rows textSizes texts now keeps kept asked upper lower finding findings read at_ costs ways reach) H → va_D (adr (W_X8 ca a rowSizes rows textSizes texts now keeps kept asked upper lower finding findings read at_ costs ways reach)) (W_X8 ca a rowSizes rows textSizes texts now keeps kept asked upper lower finding findings read at_ costs ways reach) → va_S (adr (W_X8 ca a rowSizes rows textSizes texts now keeps kept asked upper lower finding findings read at_ costs ways reach)) zs.heap H locs → ∀ ls : Array Slot, lv_has ls 7 [(5, .int x5)] → W zp l ze rm_X8_judge zs zm ([.ref (a 0), .int r] : List Value).toArray zb zt zc H locs 0 0 (MQ zb (wrI (S := (Int32) × (Int32) × (Nat → Int32)) D (W_X8 ca a rowSizes rows textSizes texts now keeps kept asked upper lower finding findings read at_ costs ways reach) (fun zu => W_X8 ca a rowSizes rows textSizes texts now keeps kept zu.1 upper lower zu.2.1 zu.2.2 read at_ costs ways reach) (fun zr zu => post zr zu.1 zu.2.1 zu.2.2)) ([.ref (a 0), .int r] : List Value).toArray zs 0 0 (adr (W_X8 ca a rowSizes rows textSizes texts now keeps kept asked upper lower finding findings read at_ costs ways reach))) (F0 zm 161 ls [.int s0, .ref (a 0)]) := by
    intro asked finding findings x5 s0 h H locs hP hD hS ls hl
    unfold wb_X8_judge_161 at h
    refine lv_iload hx hb dX8_judge_161 (lv_at hl 0 rfl) ?_
    refine wr_calli (ws1 := fun zu => W_X8 ca a rowSizes rows textSizes texts now keeps kept zu upper lower finding findings read at_ costs ways reach) (wr := ([] : List Nat).filterMap (fun zi => (W_X8 ca a rowSizes rows textSizes texts now keeps kept asked upper lower finding findings read at_ costs ways reach : va_W)[zi]?)) (n := 13) (va_runV (As := [.int s0, .int x5]) (rest := []) ⟨hx, hb, hml, hown, hts⟩ (c_X8_answer l D ca a rowSizes rows textSizes texts now keeps kept asked upper lower finding findings read at_ costs ways reach s0 x5 _ (hD.subM [0, 1, 2, 3, 4, 5, 6, 7, 8, 9, 10, 11, 12] (by decide) rfl) h) (cwV 2 hts gX8_judge_X8_answer rfl rfl rfl (by decide +kernel) ⟨Nat.le_of_ble_eq_true rfl, Nat.le_of_ble_eq_true rfl⟩) (PcX.preV (q := (RX8, TX8, 17)) (ci := 7) (q0 := 0) hK hP rfl rfl hP) rfl rfl hl.1 rfl (lv_room (Nat.le_of_ble_eq_true rfl)) dX8_judge_163 ⟨Nat.le_of_ble_eq_true rfl, Nat.le_of_ble_eq_true rfl⟩) hP hD hS [0, 1, 2, 3, 4, 5, 6, 7, 8, 9, 10, 11, 12] [] rfl (fun _ => rfl) rfl (fun _ => rfl) (fun _ => rfl) (fun _ => rfl) (by decide +kernel) (by decide +kernel) (fun r2 zu H locs h hP hD hS => ?_)
    obtain ⟨asked_3, rfl⟩ : ∃ zz, zz = zu := ⟨zu, rfl⟩
    have hP : va_P D vwCl (W_X8 ca a rowSizes rows textSizes texts now keeps kept asked_3 upper lower finding findings read at_ costs ways reach) H := hP
    have hD : va_D _ (W_X8 ca a rowSizes rows textSizes texts now keeps kept asked_3 upper lower finding findings read at_ costs ways reach) := hD
    try dsimp only at h
    exact W.iret (v := r2) hx hb hr (fun zt ht hW => ⟨⟨r2, (asked_3, finding, findings), rfl, h, by rw [ht]; exact hP⟩, hS.F ht⟩) hS.2.2 dX8_judge_166
  have w_159 : ∀ (asked : Int32) (finding : Int32) (findings : Nat → Int32) (x5 : Int32), wb_X8_judge_159 post asked finding findings x5 → ∀ (H : Heap) (locs : List Loc), va_P D vwCl (W_X8 ca a rowSizes rows textSizes texts now keeps kept asked upper lower finding findings read at_ costs ways reach) H → va_D (adr (W_X8 ca a rowSizes rows textSizes texts now keeps kept asked upper lower finding findings read at_ costs ways reach)) (W_X8 ca a rowSizes rows textSizes texts now keeps kept asked upper lower finding findings read at_ costs ways reach) → va_S (adr (W_X8 ca a rowSizes rows textSizes texts now keeps kept asked upper lower finding findings read at_ costs ways reach)) zs.heap H locs → ∀ ls : Array Slot, lv_has ls 7 [(5, .int x5)] → W zp l ze rm_X8_judge zs zm ([.ref (a 0), .int r] : List Value).toArray zb zt zc H locs 0 0 (MQ zb (wrI (S := (Int32) × (Int32) × (Nat → Int32)) D (W_X8 ca a rowSizes rows textSizes texts now keeps kept asked upper lower finding findings read at_ costs ways reach) (fun zu => W_X8 ca a rowSizes rows textSizes texts now keeps kept zu.1 upper lower zu.2.1 zu.2.2 read at_ costs ways reach) (fun zr zu => post zr zu.1 zu.2.1 zu.2.2)) ([.ref (a 0), .int r] : List Value).toArray zs 0 0 (adr (W_X8 ca a rowSizes rows textSizes texts now keeps kept asked upper lower finding findings read at_ costs ways reach))) (F0 zm 159 ls [.ref (a 0)]) := by
    intro asked finding findings x5 h H locs hP hD hS ls hl
    unfold wb_X8_judge_159 at h
    refine lv_bipush (v := (-9)) hx hb dX8_judge_159 (by decide) ?_
    exact w_161  asked finding findings x5 (-9 : Int32) h _ _ hP hD hS ls (lv_sub hl [0] rfl)
  have w_143 : ∀ (asked : Int32) (finding : Int32) (findings : Nat → Int32) (x2 : Int32) (x3 : Int32) (x4 : Int32) (x5 : Int32), wb_X8_judge_143 post asked finding findings x2 x3 x4 x5 → ∀ (H : Heap) (locs : List Loc), va_P D vwCl (W_X8 ca a rowSizes rows textSizes texts now keeps kept asked upper lower finding findings read at_ costs ways reach) H → va_D (adr (W_X8 ca a rowSizes rows textSizes texts now keeps kept asked upper lower finding findings read at_ costs ways reach)) (W_X8 ca a rowSizes rows textSizes texts now keeps kept asked upper lower finding findings read at_ costs ways reach) → va_S (adr (W_X8 ca a rowSizes rows textSizes texts now keeps kept asked upper lower finding findings read at_ costs ways reach)) zs.heap H locs → ∀ ls : Array Slot, lv_has ls 7 [(0, .ref (a 0)), (2, .int x2), (3, .int x3), (4, .int x4), (5, .int x5)] → W zp l ze rm_X8_judge zs zm ([.ref (a 0), .int r] : List Value).toArray zb zt zc H locs 0 0 (MQ zb (wrI (S := (Int32) × (Int32) × (Nat → Int32)) D (W_X8 ca a rowSizes rows textSizes texts now keeps kept asked upper lower finding findings read at_ costs ways reach) (fun zu => W_X8 ca a rowSizes rows textSizes texts now keeps kept zu.1 upper lower zu.2.1 zu.2.2 read at_ costs ways reach) (fun zr zu => post zr zu.1 zu.2.1 zu.2.2)) ([.ref (a 0), .int r] : List Value).toArray zs 0 0 (adr (W_X8 ca a rowSizes rows textSizes texts now keeps kept asked upper lower finding findings read at_ costs ways reach))) (F0 zm 143 ls []) := by
    intro asked finding findings x2 x3 x4 x5 h H locs hP hD hS ls hl
    unfold wb_X8_judge_143 at h
    refine lv_aload_n hx hb dX8_judge_143 rfl (lv_at hl 0 rfl) ?_
    refine lv_iload hx hb dX8_judge_144 (lv_at hl 4 rfl) ?_
    refine lv_iload_n hx hb dX8_judge_146 rfl (lv_at hl 1 rfl) ?_
    refine lv_icmp_ne (tgt := 159) hx hb dX8_judge_147 (by decide) (fun hc => ?_) (fun hc => ?_)
    · have h := h.1 hc
      exact w_159  asked finding findings x5 h _ _ hP hD hS ls (lv_sub hl [4] rfl)
    · have h := h.2 hc
      refine lv_iload_n hx hb dX8_judge_150 rfl (lv_at hl 2 rfl) ?_
      refine lv_if_ne (tgt := 159) hx hb dX8_judge_151 (by decide) (fun hc => ?_) (fun hc => ?_)
      · have h := h.1 hc
        exact w_159  asked finding findings x5 h _ _ hP hD hS ls (lv_sub hl [4] rfl)
      · have h := h.2 hc
        refine lv_iload hx hb dX8_judge_154 (lv_at hl 3 rfl) ?_
        refine lv_goto (tgt := 161) hx hb dX8_judge_156 (by decide) ?_
        exact w_161  asked finding findings x5 x4 h _ _ hP hD hS ls (lv_sub hl [4] rfl)
  have w_76 : ∀ (zn : Nat) (asked : Int32) (finding : Int32) (findings : Nat → Int32) (x2 : Int32) (x3 : Int32) (x4 : Int32) (x5 : Int32), wl_X8_judge_76 rows now r post zn asked finding findings x2 x3 x4 x5 → ∀ (H : Heap) (locs : List Loc), va_P D vwCl (W_X8 ca a rowSizes rows textSizes texts now keeps kept asked upper lower finding findings read at_ costs ways reach) H → va_D (adr (W_X8 ca a rowSizes rows textSizes texts now keeps kept asked upper lower finding findings read at_ costs ways reach)) (W_X8 ca a rowSizes rows textSizes texts now keeps kept asked upper lower finding findings read at_ costs ways reach) → va_S (adr (W_X8 ca a rowSizes rows textSizes texts now keeps kept asked upper lower finding findings read at_ costs ways reach)) zs.heap H locs → ∀ ls : Array Slot, lv_has ls 7 [(0, .ref (a 0)), (1, .int r), (2, .int x2), (3, .int x3), (4, .int x4), (5, .int x5)] → W zp l ze rm_X8_judge zs zm ([.ref (a 0), .int r] : List Value).toArray zb zt zc H locs 0 0 (MQ zb (wrI (S := (Int32) × (Int32) × (Nat → Int32)) D (W_X8 ca a rowSizes rows textSizes texts now keeps kept asked upper lower finding findings read at_ costs ways reach) (fun zu => W_X8 ca a rowSizes rows textSizes texts now keeps kept zu.1 upper lower zu.2.1 zu.2.2 read at_ costs ways reach) (fun zr zu => post zr zu.1 zu.2.1 zu.2.2)) ([.ref (a 0), .int r] : List Value).toArray zs 0 0 (adr (W_X8 ca a rowSizes rows textSizes texts now keeps kept asked upper lower finding findings read at_ costs ways reach))) (F0 zm 76 ls []) := by
    intro zn
    induction zn with
    | zero => intro asked finding findings x2 x3 x4 x5 h; exact h.elim
    | succ zn ih76 =>
      intro asked finding findings x2 x3 x4 x5 h H locs hP hD hS ls hl
      replace h : wb_X8_judge_76 rows now r post (wl_X8_judge_76 rows now r post zn) asked finding findings x2 x3 x4 x5 := h
      unfold wb_X8_judge_76 at h
      refine lv_iload hx hb dX8_judge_76 (lv_at hl 5 rfl) ?_
      refine lv_iload_n hx hb dX8_judge_78 rfl (lv_at hl 2 rfl) ?_
      refine lv_icmp_ge (tgt := 143) hx hb dX8_judge_79 (by decide) (fun hc => ?_) (fun hc => ?_)
      · have h := h.1 hc
        exact w_143  asked finding findings x2 x3 x4 x5 h _ _ hP hD hS ls (lv_sub hl [0, 2, 3, 4, 5] rfl)
      · have h := h.2 hc
        refine lv_aload_n hx hb dX8_judge_82 rfl (lv_at hl 0 rfl) ?_
        refine lv_aload_n hx hb dX8_judge_83 rfl (lv_at hl 0 rfl) ?_
        refine va_get (D := D) (ci := 7) (v := .ref (a 2)) (C := RX8) (T := TX8) (N := 17) hx hb hts hi_X8_judge_X8 hown hK.1 hP 0 rfl rfl 1 (by decide) (hts _ k_X8_judge_2) (fun _ h9 => h9) rfl dX8_judge_84 ?_
        refine lv_bipush (v := (40)) hx hb dX8_judge_87 (by decide) ?_
        refine lv_iload_n hx hb dX8_judge_89 rfl (lv_at hl 1 rfl) ?_
        refine lv_imul hx hb dX8_judge_90 ?_
        refine lv_iload hx hb dX8_judge_91 (lv_at hl 5 rfl) ?_
        refine lv_iadd hx hb dX8_judge_93 ?_
        obtain ⟨hi, h⟩ := h
        refine x_iald (v := rows (((40 : Int32) * r) + x5).toNatClampNeg) hx hb hK hP 2 rfl hi rfl dX8_judge_94 ?_
        refine lv_iload_n hx hb dX8_judge_95 rfl (lv_at hl 3 rfl) ?_
        refine rd_callz (va_runV (As := [.int (rows (((40 : Int32) * r) + x5).toNatClampNeg), .int x3]) (rest := []) ⟨hx, hb, hml, hown, hts⟩ (c_X8_mayBe l D ca a rowSizes rows textSizes texts now keeps kept asked upper lower finding findings read at_ costs ways reach (rows (((40 : Int32) * r) + x5).toNatClampNeg) x3 _ h) (cwV 2 hts gX8_judge_X8_mayBe rfl rfl rfl (by decide +kernel) ⟨Nat.le_of_ble_eq_true rfl, Nat.le_of_ble_eq_true rfl⟩) (PcX.preV (q := (RX8, TX8, 17)) (ci := 7) (q0 := 0) hK hP rfl rfl hP) rfl rfl hl.1 rfl (lv_room (Nat.le_of_ble_eq_true rfl)) dX8_judge_96 ⟨Nat.le_of_ble_eq_true rfl, Nat.le_of_ble_eq_true rfl⟩) (fun r4 h hz_r4 => ?_)
        try dsimp only at h
        refine lv_if_eq (tgt := 143) hx hb dX8_judge_99 (by decide) (fun hc => ?_) (fun hc => ?_)
        · have h := h.1 hc
          exact w_143  asked finding findings x2 x3 x4 x5 h _ _ hP hD hS ls (lv_sub hl [0, 2, 3, 4, 5] rfl)
        · have h := h.2 hc
          refine lv_aload_n hx hb dX8_judge_102 rfl (lv_at hl 0 rfl) ?_
          refine va_get (D := D) (ci := 7) (v := .ref (a 2)) (C := RX8) (T := TX8) (N := 17) hx hb hts hi_X8_judge_X8 hown hK.1 hP 0 rfl rfl 1 (by decide) (hts _ k_X8_judge_2) (fun _ h9 => h9) rfl dX8_judge_103 ?_
          refine lv_bipush (v := (40)) hx hb dX8_judge_106 (by decide) ?_
          refine lv_iload_n hx hb dX8_judge_108 rfl (lv_at hl 1 rfl) ?_
          refine lv_imul hx hb dX8_judge_109 ?_
          refine lv_iload hx hb dX8_judge_110 (lv_at hl 5 rfl) ?_
          refine lv_iadd hx hb dX8_judge_112 ?_
          obtain ⟨hi, h⟩ := h
          refine x_iald (v := rows (((40 : Int32) * r) + x5).toNatClampNeg) hx hb hK hP 2 rfl hi rfl dX8_judge_113 ?_
          refine lv_istore (lv' := [(6, .int (rows (((40 : Int32) * r) + x5).toNatClampNeg)), (0, .ref (a 0)), (1, .int r), (2, .int x2), (3, .int x3), (4, .int x4), (5, .int x5)]) hx hb dX8_judge_114 hl (by decide) rfl (fun ls hl => ?_)
          refine lv_iload hx hb dX8_judge_116 (lv_at hl 5 rfl) ?_
          refine lv_aload_n hx hb dX8_judge_118 rfl (lv_at hl 1 rfl) ?_
          refine lv_iload hx hb dX8_judge_119 (lv_at hl 0 rfl) ?_
          refine lv_iload_n hx hb dX8_judge_121 rfl (lv_at hl 4 rfl) ?_
          refine rd_calli (va_runV (As := [.int (rows (((40 : Int32) * r) + x5).toNatClampNeg), .int x3]) (rest := [.int x4]) ⟨hx, hb, hml, hown, hts⟩ (c_X8_price l D ca a rowSizes rows textSizes texts now keeps kept asked upper lower finding findings read at_ costs ways reach (rows (((40 : Int32) * r) + x5).toNatClampNeg) x3 _ h) (cwV 2 hts gX8_judge_X8_price rfl rfl rfl (by decide +kernel) ⟨Nat.le_of_ble_eq_true rfl, Nat.le_of_ble_eq_true rfl⟩) (PcX.preV (q := (RX8, TX8, 17)) (ci := 7) (q0 := 0) hK hP rfl rfl hP) rfl rfl hl.1 rfl (lv_room (Nat.le_of_ble_eq_true rfl)) dX8_judge_122 ⟨Nat.le_of_ble_eq_true rfl, Nat.le_of_ble_eq_true rfl⟩) (fun r5 h => ?_)
          try dsimp only at h
          refine lv_iadd hx hb dX8_judge_125 ?_
          refine lv_istore (lv' := [(4, .int (x4 + r5)), (6, .int (rows (((40 : Int32) * r) + x5).toNatClampNeg)), (0, .ref (a 0)), (1, .int r), (2, .int x2), (3, .int x3), (5, .int x5)]) hx hb dX8_judge_126 hl (by decide) rfl (fun ls hl => ?_)
          refine lv_iload_n hx hb dX8_judge_128 rfl (lv_at hl 5 rfl) ?_
          refine lv_iconst (v := (1)) hx hb dX8_judge_129 (by decide) ?_
          refine lv_iload hx hb dX8_judge_130 (lv_at hl 1 rfl) ?_
          refine lv_ishl hx hb dX8_judge_132 ?_
          refine lv_iconst (v := (-1)) hx hb dX8_judge_133 (by decide) ?_
          refine lv_ixor hx hb dX8_judge_134 ?_
          refine lv_iand hx hb dX8_judge_135 ?_
          refine lv_istore_n (lv' := [(3, .int (x3 &&& (((1 : Int32) <<< ((rows (((40 : Int32) * r) + x5).toNatClampNeg) &&& 31)) ^^^ (-1 : Int32)))), (4, .int (x4 + r5)), (6, .int (rows (((40 : Int32) * r) + x5).toNatClampNeg)), (0, .ref (a 0)), (1, .int r), (2, .int x2), (5, .int x5)]) hx hb dX8_judge_136 rfl hl (by decide) rfl (fun ls hl => ?_)
          refine lv_iinc (v := x5 + 1) (lv' := [(5, .int (x5 + 1)), (3, .int (x3 &&& (((1 : Int32) <<< ((rows (((40 : Int32) * r) + x5).toNatClampNeg) &&& 31)) ^^^ (-1 : Int32)))), (4, .int (x4 + r5)), (6, .int (rows (((40 : Int32) * r) + x5).toNatClampNeg)), (0, .ref (a 0)), (1, .int r), (2, .int x2)]) hx hb dX8_judge_137 hl (k := 6) rfl rfl (by decide) rfl (fun ls hl => ?_)
          refine lv_goto (tgt := 76) hx hb dX8_judge_140 (by decide) ?_
          exact ih76 asked finding findings x2 (x3 &&& (((1 : Int32) <<< ((rows (((40 : Int32) * r) + x5).toNatClampNeg) &&& 31)) ^^^ (-1 : Int32))) (x4 + r5) (x5 + 1) h _ _ hP hD hS ls (lv_sub hl [4, 5, 6, 1, 2, 0] rfl)
  have w_28 : ∀ (zn : Nat) (asked : Int32) (finding : Int32) (findings : Nat → Int32) (x2 : Int32) (x3 : Int32), wl_X8_judge_28 rows now r post zn asked finding findings x2 x3 → ∀ (H : Heap) (locs : List Loc), va_P D vwCl (W_X8 ca a rowSizes rows textSizes texts now keeps kept asked upper lower finding findings read at_ costs ways reach) H → va_D (adr (W_X8 ca a rowSizes rows textSizes texts now keeps kept asked upper lower finding findings read at_ costs ways reach)) (W_X8 ca a rowSizes rows textSizes texts now keeps kept asked upper lower finding findings read at_ costs ways reach) → va_S (adr (W_X8 ca a rowSizes rows textSizes texts now keeps kept asked upper lower finding findings read at_ costs ways reach)) zs.heap H locs → ∀ ls : Array Slot, lv_has ls 7 [(0, .ref (a 0)), (1, .int r), (2, .int x2), (3, .int x3)] → W zp l ze rm_X8_judge zs zm ([.ref (a 0), .int r] : List Value).toArray zb zt zc H locs 0 0 (MQ zb (wrI (S := (Int32) × (Int32) × (Nat → Int32)) D (W_X8 ca a rowSizes rows textSizes texts now keeps kept asked upper lower finding findings read at_ costs ways reach) (fun zu => W_X8 ca a rowSizes rows textSizes texts now keeps kept zu.1 upper lower zu.2.1 zu.2.2 read at_ costs ways reach) (fun zr zu => post zr zu.1 zu.2.1 zu.2.2)) ([.ref (a 0), .int r] : List Value).toArray zs 0 0 (adr (W_X8 ca a rowSizes rows textSizes texts now keeps kept asked upper lower finding findings read at_ costs ways reach))) (F0 zm 28 ls []) := by
    intro zn
    induction zn with
    | zero => intro asked finding findings x2 x3 h; exact h.elim
    | succ zn ih28 =>
      intro asked finding findings x2 x3 h H locs hP hD hS ls hl
      replace h : wb_X8_judge_28 rows now r post (wl_X8_judge_28 rows now r post zn) asked finding findings x2 x3 := h
      unfold wb_X8_judge_28 at h
      refine lv_iload_n hx hb dX8_judge_28 rfl (lv_at hl 3 rfl) ?_
      refine lv_iload_n hx hb dX8_judge_29 rfl (lv_at hl 2 rfl) ?_
      refine lv_icmp_ge (tgt := 63) hx hb dX8_judge_30 (by decide) (fun hc => ?_) (fun hc => ?_)
      · have h := h.1 hc
        refine lv_aload_n hx hb dX8_judge_63 rfl (lv_at hl 0 rfl) ?_
        refine va_get (D := D) (ci := 7) (v := .ref (a 5)) (C := RX8) (T := TX8) (N := 17) hx hb hts hi_X8_judge_X8 hown hK.1 hP 0 rfl rfl 4 (by decide) (hts _ k_X8_judge_3) (fun _ h9 => h9) rfl dX8_judge_64 ?_
        refine lv_iconst (v := (2)) hx hb dX8_judge_67 (by decide) ?_
        refine x_iald (v := now 2) hx hb hK hP 5 rfl (vin_lit (by decide)) rfl dX8_judge_68 ?_
        refine lv_istore_n (lv' := [(3, .int (now 2)), (0, .ref (a 0)), (1, .int r), (2, .int x2)]) hx hb dX8_judge_69 rfl hl (by decide) rfl (fun ls hl => ?_)
        refine lv_iconst (v := (0)) hx hb dX8_judge_70 (by decide) ?_
        refine lv_istore (lv' := [(4, .int (0 : Int32)), (3, .int (now 2)), (0, .ref (a 0)), (1, .int r), (2, .int x2)]) hx hb dX8_judge_71 hl (by decide) rfl (fun ls hl => ?_)
        refine lv_iconst (v := (0)) hx hb dX8_judge_73 (by decide) ?_
        refine lv_istore (lv' := [(5, .int (0 : Int32)), (4, .int (0 : Int32)), (3, .int (now 2)), (0, .ref (a 0)), (1, .int r), (2, .int x2)]) hx hb dX8_judge_74 hl (by decide) rfl (fun ls hl => ?_)
        obtain ⟨zn, h⟩ := h
        exact w_76  zn asked finding findings x2 (now 2) (0 : Int32) (0 : Int32) h _ _ hP hD hS ls (lv_sub hl [3, 4, 5, 2, 1, 0] rfl)
      · have h := h.2 hc
        refine lv_aload_n hx hb dX8_judge_33 rfl (lv_at hl 0 rfl) ?_
        refine lv_aload_n hx hb dX8_judge_34 rfl (lv_at hl 0 rfl) ?_
        refine va_get (D := D) (ci := 7) (v := .ref (a 2)) (C := RX8) (T := TX8) (N := 17) hx hb hts hi_X8_judge_X8 hown hK.1 hP 0 rfl rfl 1 (by decide) (hts _ k_X8_judge_2) (fun _ h9 => h9) rfl dX8_judge_35 ?_
        refine lv_bipush (v := (40)) hx hb dX8_judge_38 (by decide) ?_
        refine lv_iload_n hx hb dX8_judge_40 rfl (lv_at hl 1 rfl) ?_
        refine lv_imul hx hb dX8_judge_41 ?_
        refine lv_iload_n hx hb dX8_judge_42 rfl (lv_at hl 3 rfl) ?_
        refine lv_iadd hx hb dX8_judge_43 ?_
        obtain ⟨hi, h⟩ := h
        refine x_iald (v := rows (((40 : Int32) * r) + x3).toNatClampNeg) hx hb hK hP 2 rfl hi rfl dX8_judge_44 ?_
        refine rd_callz (va_runV (As := [.int (rows (((40 : Int32) * r) + x3).toNatClampNeg)]) (rest := []) ⟨hx, hb, hml, hown, hts⟩ (c_X8_isSaying l D ca a rowSizes rows textSizes texts now keeps kept asked upper lower finding findings read at_ costs ways reach (rows (((40 : Int32) * r) + x3).toNatClampNeg) _ h) (cwV 1 hts gX8_judge_X8_isSaying rfl rfl rfl (by decide +kernel) ⟨Nat.le_of_ble_eq_true rfl, Nat.le_of_ble_eq_true rfl⟩) (PcX.preV (q := (RX8, TX8, 17)) (ci := 7) (q0 := 0) hK hP rfl rfl hP) rfl rfl hl.1 rfl (lv_room (Nat.le_of_ble_eq_true rfl)) dX8_judge_45 ⟨Nat.le_of_ble_eq_true rfl, Nat.le_of_ble_eq_true rfl⟩) (fun r6 h hz_r6 => ?_)
        try dsimp only at h
        refine lv_if_ne (tgt := 57) hx hb dX8_judge_48 (by decide) (fun hc => ?_) (fun hc => ?_)
        · have h := h.1 hc
          refine lv_iinc (v := x3 + 1) (lv' := [(3, .int (x3 + 1)), (0, .ref (a 0)), (1, .int r), (2, .int x2)]) hx hb dX8_judge_57 hl (k := 3) rfl rfl (by decide) rfl (fun ls hl => ?_)
          refine lv_goto (tgt := 28) hx hb dX8_judge_60 (by decide) ?_
          exact ih28 asked finding findings x2 (x3 + 1) h _ _ hP hD hS ls (lv_sub hl [1, 2, 3, 0] rfl)
        · have h := h.2 hc
          refine lv_aload_n hx hb dX8_judge_51 rfl (lv_at hl 0 rfl) ?_
          refine lv_iconst (v := (3)) hx hb dX8_judge_52 (by decide) ?_
          refine wr_calli (ws1 := fun zu => W_X8 ca a rowSizes rows textSizes texts now keeps kept asked upper lower zu.1 zu.2 read at_ costs ways reach) (wr := ([] : List Nat).filterMap (fun zi => (W_X8 ca a rowSizes rows textSizes texts now keeps kept asked upper lower finding findings read at_ costs ways reach : va_W)[zi]?)) (n := 13) (va_runV (As := [.int (3 : Int32)]) (rest := []) ⟨hx, hb, hml, hown, hts⟩ (c_X8_found l D ca a rowSizes rows textSizes texts now keeps kept asked upper lower finding findings read at_ costs ways reach (3 : Int32) _ (hD.subM [0, 1, 2, 3, 4, 5, 6, 7, 8, 9, 10, 11, 12] (by decide) rfl) h) (cwV 1 hts gX8_judge_X8_found rfl rfl rfl (by decide +kernel) ⟨Nat.le_of_ble_eq_true rfl, Nat.le_of_ble_eq_true rfl⟩) (PcX.preV (q := (RX8, TX8, 17)) (ci := 7) (q0 := 0) hK hP rfl rfl hP) rfl rfl hl.1 rfl (lv_room (Nat.le_of_ble_eq_true rfl)) dX8_judge_53 ⟨Nat.le_of_ble_eq_true rfl, Nat.le_of_ble_eq_true rfl⟩) hP hD hS [0, 1, 2, 3, 4, 5, 6, 7, 8, 9, 10, 11, 12] [] rfl (fun _ => rfl) rfl (fun _ => rfl) (fun _ => rfl) (fun _ => rfl) (by decide +kernel) (by decide +kernel) (fun r7 zu H locs h hP hD hS => ?_)
          obtain ⟨finding_8, findings_9⟩ := zu
          have hP : va_P D vwCl (W_X8 ca a rowSizes rows textSizes texts now keeps kept asked upper lower finding_8 findings_9 read at_ costs ways reach) H := hP
          have hD : va_D _ (W_X8 ca a rowSizes rows textSizes texts now keeps kept asked upper lower finding_8 findings_9 read at_ costs ways reach) := hD
          try dsimp only at h
          exact W.iret (v := r7) hx hb hr (fun zt ht hW => ⟨⟨r7, (asked, finding_8, findings_9), rfl, h, by rw [ht]; exact hP⟩, hS.F ht⟩) hS.2.2 dX8_judge_56
  unfold wp_X8_judge at h
  refine lv_iload_n hx hb dX8_judge_0 rfl (lv_at hl 1 rfl) ?_
  refine rd_callz (va_runS (As := [.int r]) (rest := []) ⟨hx, hb, hml, hown, hts⟩ (c_X8_isRow l D ca   r _ h) (va_cwS 1 hts gX8_judge_X8_isRow rfl rfl rfl (by decide +kernel) ⟨Nat.le_of_ble_eq_true rfl, Nat.le_of_ble_eq_true rfl⟩) (PcX.preS hK (fun zk zq zh => by simp at zh)) rfl rfl hl.1 rfl (lv_room (Nat.le_of_ble_eq_true rfl)) dX8_judge_1 ⟨Nat.le_of_ble_eq_true rfl, Nat.le_of_ble_eq_true rfl⟩) (fun r1 h hz_r1 => ?_)
  try dsimp only at h
  refine lv_if_ne (tgt := 9) hx hb dX8_judge_4 (by decide) (fun hc => ?_) (fun hc => ?_)
  · have h := h.1 hc
    refine lv_aload_n hx hb dX8_judge_9 rfl (lv_at hl 0 rfl) ?_
    refine va_get (D := D) (ci := 7) (v := .ref (a 1)) (C := RX8) (T := TX8) (N := 17) hx hb hts hi_X8_judge_X8 hown hK.1 hP 0 rfl rfl 0 (by decide) (hts _ k_X8_judge_1) (fun _ h9 => h9) rfl dX8_judge_10 ?_
    refine lv_iload_n hx hb dX8_judge_13 rfl (lv_at hl 1 rfl) ?_
    obtain ⟨hi, h⟩ := h
    refine x_iald (v := rowSizes r.toNatClampNeg) hx hb hK hP 1 rfl hi rfl dX8_judge_14 ?_
    refine lv_istore_n (lv' := [(2, .int (rowSizes r.toNatClampNeg)), (0, .ref (a 0)), (1, .int r)]) hx hb dX8_judge_15 rfl hl (by decide) rfl (fun ls hl => ?_)
    refine lv_iload_n hx hb dX8_judge_16 rfl (lv_at hl 0 rfl) ?_
    refine lv_if_ge (tgt := 26) hx hb dX8_judge_17 (by decide) (fun hc => ?_) (fun hc => ?_)
    · have h := h.1 hc
      refine lv_iconst (v := (0)) hx hb dX8_judge_26 (by decide) ?_
      refine lv_istore_n (lv' := [(3, .int (0 : Int32)), (2, .int (rowSizes r.toNatClampNeg)), (0, .ref (a 0)), (1, .int r)]) hx hb dX8_judge_27 rfl hl (by decide) rfl (fun ls hl => ?_)
      obtain ⟨zn, h⟩ := h
      exact w_28  zn asked finding findings (rowSizes r.toNatClampNeg) (0 : Int32) h _ _ hP hD hS ls (lv_sub hl [2, 3, 1, 0] rfl)
    · have h := h.2 hc
      refine lv_aload_n hx hb dX8_judge_20 rfl (lv_at hl 1 rfl) ?_
      refine lv_iconst (v := (1)) hx hb dX8_judge_21 (by decide) ?_
      refine wr_calli (ws1 := fun zu => W_X8 ca a rowSizes rows textSizes texts now keeps kept asked upper lower zu.1 zu.2 read at_ costs ways reach) (wr := ([] : List Nat).filterMap (fun zi => (W_X8 ca a rowSizes rows textSizes texts now keeps kept asked upper lower finding findings read at_ costs ways reach : va_W)[zi]?)) (n := 13) (va_runV (As := [.int (1 : Int32)]) (rest := []) ⟨hx, hb, hml, hown, hts⟩ (c_X8_found l D ca a rowSizes rows textSizes texts now keeps kept asked upper lower finding findings read at_ costs ways reach (1 : Int32) _ (hD.subM [0, 1, 2, 3, 4, 5, 6, 7, 8, 9, 10, 11, 12] (by decide) rfl) h) (cwV 1 hts gX8_judge_X8_found rfl rfl rfl (by decide +kernel) ⟨Nat.le_of_ble_eq_true rfl, Nat.le_of_ble_eq_true rfl⟩) (PcX.preV (q := (RX8, TX8, 17)) (ci := 7) (q0 := 0) hK hP rfl rfl hP) rfl rfl hl.1 rfl (lv_room (Nat.le_of_ble_eq_true rfl)) dX8_judge_22 ⟨Nat.le_of_ble_eq_true rfl, Nat.le_of_ble_eq_true rfl⟩) hP hD hS [0, 1, 2, 3, 4, 5, 6, 7, 8, 9, 10, 11, 12] [] rfl (fun _ => rfl) rfl (fun _ => rfl) (fun _ => rfl) (fun _ => rfl) (by decide +kernel) (by decide +kernel) (fun r10 zu H locs h hP hD hS => ?_)
      obtain ⟨finding_11, findings_12⟩ := zu
      have hP : va_P D vwCl (W_X8 ca a rowSizes rows textSizes texts now keeps kept asked upper lower finding_11 findings_12 read at_ costs ways reach) H := hP
      have hD : va_D _ (W_X8 ca a rowSizes rows textSizes texts now keeps kept asked upper lower finding_11 findings_12 read at_ costs ways reach) := hD
      try dsimp only at h
      exact W.iret (v := r10) hx hb hr (fun zt ht hW => ⟨⟨r10, (asked, finding_11, findings_12), rfl, h, by rw [ht]; exact hP⟩, hS.F ht⟩) hS.2.2 dX8_judge_25
  · have h := h.2 hc
    refine lv_iconst (v := (-1)) hx hb dX8_judge_7 (by decide) ?_
    exact W.iret (v := (-1 : Int32)) hx hb hr (fun zt ht hW => ⟨⟨(-1 : Int32), (asked, finding, findings), rfl, h, by rw [ht]; exact hP⟩, hS.F ht⟩) hS.2.2 dX8_judge_8

-- IronedQuarrelsModel.last(I)I
def wp_X8_last (now : Nat → Int32) (upper : Int64) (lower : Int64) (costs : Nat → Int32) (ways : Nat → Int64) (i : Int32) (post : Int32 → (Int64) → (Int64) → (Nat → Int32) → (Nat → Int64) → Prop) : Prop :=
  wp_X8_isSaying now i (fun r1 => (¬ r1 = 0 → (wp_X8_has (now 2) i (fun r2 => (¬ r2 = 0 → (wp_X8_layOrders now costs ways (-9 : Int32) (fun costs_3 ways_4 => vp_in (now 2) 4096 ∧ wp_X8_layOrders now costs_3 ways_4 i (fun costs_5 ways_6 => vp_in (now 2) 4096 ∧ wp_X8_fraction upper lower (ways_6 (now 2).toNatClampNeg) (ways_4 (now 2).toNatClampNeg) (fun r7 upper_8 lower_9 => post r7 upper_8 lower_9 costs_5 ways_6))))) ∧ (r2 = 0 → (post (-4 : Int32) upper lower costs ways))))) ∧ (r1 = 0 → (post (-1 : Int32) upper lower costs ways)))
def rm_X8_last : Room := { frames := 4, cells := 0, slots := 0, locals := 96 }
theorem k_X8_last_1 : Cond.fieldLink RX8 22 "IronedQuarrelsModel" "now" "[I" ∈ wsX8_last := List.mem_of_getElem? (i := 1) (by decide +kernel)
theorem k_X8_last_2 : Cond.fieldLink RX8 45 "IronedQuarrelsModel" "ways" "[J" ∈ wsX8_last := List.mem_of_getElem? (i := 2) (by decide +kernel)
theorem hi_X8_last_X8 : ∀ w ∈ wsX80, w ∈ wsX8_last := fun w h => List.mem_cons_of_mem _ (List.mem_append_right _ h)
set_option maxHeartbeats 4000000 in
set_option maxRecDepth 100000 in
theorem c_X8_last (l : Launch) (D : va_G) (ca : Nat → ClassId) (a : Nat → Nat) (rowSizes : Nat → Int32) (rows : Nat → Int32) (textSizes : Nat → Int32) (texts : Nat → Int32) (now : Nat → Int32) (keeps : Nat → Int32) (kept : Nat → Int32) (asked : Int32) (upper : Int64) (lower : Int64) (finding : Int32) (findings : Nat → Int32) (read : Nat → Int32) (at_ : Int32) (costs : Nat → Int32) (ways : Nat → Int64) (reach : Nat → Int32) (i : Int32) (post : Int32 → (Int64) → (Int64) → (Nat → Int32) → (Nat → Int64) → Prop) (hd : va_D (fun _ => True) (W_X8 ca a rowSizes rows textSizes texts now keeps kept asked upper lower finding findings read at_ costs ways reach)) (h : wp_X8_last now upper lower costs ways i post) : Met l yX8_last wsX8_last rm_X8_last (PcX D ca [.ref (a 0), .int i] (W_X8 ca a rowSizes rows textSizes texts now keeps kept asked upper lower finding findings read at_ costs ways reach)) (wrI (S := (Int64) × (Int64) × (Nat → Int32) × (Nat → Int64)) D (W_X8 ca a rowSizes rows textSizes texts now keeps kept asked upper lower finding findings read at_ costs ways reach) (fun zu => W_X8 ca a rowSizes rows textSizes texts now keeps kept asked zu.1 zu.2.1 finding findings read at_ zu.2.2.1 zu.2.2.2 reach) (fun zr zu => post zr zu.1 zu.2.1 zu.2.2.1 zu.2.2.2)) 0 0 (adr (W_X8 ca a rowSizes rows textSizes texts now keeps kept asked upper lower finding findings read at_ costs ways reach)) := by
  refine Met.ofW (cc := cX8_last) (maxL := 4) (ret := (some .int)) (by decide) rfl ?_
  intro zp ze zs zm za zb zt zc z1 B hml hv
  obtain ⟨rfl, hP, hK⟩ := hv
  have hx := B.exec
  have hb := B.bytes
  have hr := B.returns
  have hts := atoms_spec (ws := wsX8_last) B.pre
  have hown : zs.vm.findClass RX8 = some zm.cls := findClass_of_methodNamed B.named
  have hlocks := B.notSynchronized
  have hD : va_D (adr (W_X8 ca a rowSizes rows textSizes texts now keeps kept asked upper lower finding findings read at_ costs ways reach)) (W_X8 ca a rowSizes rows textSizes texts now keeps kept asked upper lower finding findings read at_ costs ways reach) := hd.adr
  have hS : va_S (adr (W_X8 ca a rowSizes rows textSizes texts now keeps kept asked upper lower finding findings read at_ costs ways reach)) zs.heap zs.heap [] := va_S.rf
  have hl := lv_entry ([.ref (a 0), .int i]) (n := 4) (Nat.le_of_ble_eq_true rfl)
  rw [lg_entry_eq]
  generalize (lg_sl ([.ref (a 0), .int i]) ++ List.replicate (4 - (lg_sl ([.ref (a 0), .int i])).length) Slot.unset).toArray = ls at hl ⊢
  replace hl : lv_has ls 4 [(0, .ref (a 0)), (1, .int i)] := hl
  show W zp l ze rm_X8_last zs zm ([.ref (a 0), .int i] : List Value).toArray zb zt zc zs.heap [] 0 0 (MQ zb (wrI (S := (Int64) × (Int64) × (Nat → Int32) × (Nat → Int64)) D (W_X8 ca a rowSizes rows textSizes texts now keeps kept asked upper lower finding findings read at_ costs ways reach) (fun zu => W_X8 ca a rowSizes rows textSizes texts now keeps kept asked zu.1 zu.2.1 finding findings read at_ zu.2.2.1 zu.2.2.2 reach) (fun zr zu => post zr zu.1 zu.2.1 zu.2.2.1 zu.2.2.2)) ([.ref (a 0), .int i] : List Value).toArray zs 0 0 (adr (W_X8 ca a rowSizes rows textSizes texts now keeps kept asked upper lower finding findings read at_ costs ways reach))) (F0 zm 0 ls [])
  unfold wp_X8_last at h
  refine lv_aload_n hx hb dX8_last_0 rfl (lv_at hl 0 rfl) ?_
  refine lv_iload_n hx hb dX8_last_1 rfl (lv_at hl 1 rfl) ?_
  refine rd_callz (va_runV (As := [.int i]) (rest := []) ⟨hx, hb, hml, hown, hts⟩ (c_X8_isSaying l D ca a rowSizes rows textSizes texts now keeps kept asked upper lower finding findings read at_ costs ways reach i _ h) (cwV 1 hts gX8_last_X8_isSaying rfl rfl rfl (by decide +kernel) ⟨Nat.le_of_ble_eq_true rfl, Nat.le_of_ble_eq_true rfl⟩) (PcX.preV (q := (RX8, TX8, 17)) (ci := 7) (q0 := 0) hK hP rfl rfl hP) rfl rfl hl.1 rfl (lv_room (Nat.le_of_ble_eq_true rfl)) dX8_last_2 ⟨Nat.le_of_ble_eq_true rfl, Nat.le_of_ble_eq_true rfl⟩) (fun r1 h hz_r1 => ?_)
  try dsimp only at h
  refine lv_if_ne (tgt := 10) hx hb dX8_last_5 (by decide) (fun hc => ?_) (fun hc => ?_)
  · have h := h.1 hc
    refine lv_aload_n hx hb dX8_last_10 rfl (lv_at hl 0 rfl) ?_
    refine va_get (D := D) (ci := 7) (v := .ref (a 5)) (C := RX8) (T := TX8) (N := 17) hx hb hts hi_X8_last_X8 hown hK.1 hP 0 rfl rfl 4 (by decide) (hts _ k_X8_last_1) (fun _ h9 => h9) rfl dX8_last_11 ?_
    refine lv_iconst (v := (2)) hx hb dX8_last_14 (by decide) ?_
    refine x_iald (v := now 2) hx hb hK hP 5 rfl (vin_lit (by decide)) rfl dX8_last_15 ?_
    refine lv_iload_n hx hb dX8_last_16 rfl (lv_at hl 1 rfl) ?_
    refine rd_callz (va_runS (As := [.int (now 2), .int i]) (rest := []) ⟨hx, hb, hml, hown, hts⟩ (c_X8_has l D ca   (now 2) i _ h) (va_cwS 2 hts gX8_last_X8_has rfl rfl rfl (by decide +kernel) ⟨Nat.le_of_ble_eq_true rfl, Nat.le_of_ble_eq_true rfl⟩) (PcX.preS hK (fun zk zq zh => by simp at zh)) rfl rfl hl.1 rfl (lv_room (Nat.le_of_ble_eq_true rfl)) dX8_last_17 ⟨Nat.le_of_ble_eq_true rfl, Nat.le_of_ble_eq_true rfl⟩) (fun r2 h hz_r2 => ?_)
    try dsimp only at h
    refine lv_if_ne (tgt := 26) hx hb dX8_last_20 (by decide) (fun hc => ?_) (fun hc => ?_)
    · have h := h.1 hc
      refine lv_aload_n hx hb dX8_last_26 rfl (lv_at hl 0 rfl) ?_
      refine lv_bipush (v := (-9)) hx hb dX8_last_27 (by decide) ?_
      refine wr_callv (ws1 := fun zu => W_X8 ca a rowSizes rows textSizes texts now keeps kept asked upper lower finding findings read at_ zu.1 zu.2 reach) (wr := ([] : List Nat).filterMap (fun zi => (W_X8 ca a rowSizes rows textSizes texts now keeps kept asked upper lower finding findings read at_ costs ways reach : va_W)[zi]?)) (n := 13) (va_runV (As := [.int (-9 : Int32)]) (rest := []) ⟨hx, hb, hml, hown, hts⟩ (c_X8_layOrders l D ca a rowSizes rows textSizes texts now keeps kept asked upper lower finding findings read at_ costs ways reach (-9 : Int32) _ (hD.subM [0, 1, 2, 3, 4, 5, 6, 7, 8, 9, 10, 11, 12] (by decide) rfl) h) (cwV 1 hts gX8_last_X8_layOrders rfl rfl rfl (by decide +kernel) ⟨Nat.le_of_ble_eq_true rfl, Nat.le_of_ble_eq_true rfl⟩) (PcX.preV (q := (RX8, TX8, 17)) (ci := 7) (q0 := 0) hK hP rfl rfl hP) rfl rfl hl.1 rfl (lv_room (Nat.le_of_ble_eq_true rfl)) dX8_last_29 ⟨Nat.le_of_ble_eq_true rfl, Nat.le_of_ble_eq_true rfl⟩) hP hD hS [0, 1, 2, 3, 4, 5, 6, 7, 8, 9, 10, 11, 12] [] rfl (fun _ => rfl) rfl (fun _ => rfl) (fun _ => rfl) (fun _ => rfl) (by decide +kernel) (by decide +kernel) (fun zu H locs h hP hD hS => ?_)
      obtain ⟨costs_3, ways_4⟩ := zu
      have hP : va_P D vwCl (W_X8 ca a rowSizes rows textSizes texts now keeps kept asked upper lower finding findings read at_ costs_3 ways_4 reach) H := hP
      have hD : va_D _ (W_X8 ca a rowSizes rows textSizes texts now keeps kept asked upper lower finding findings read at_ costs_3 ways_4 reach) := hD
      try dsimp only at h
      refine lv_aload_n hx hb dX8_last_32 rfl (lv_at hl 0 rfl) ?_
      refine va_get (D := D) (ci := 7) (v := .ref (a 11)) (C := RX8) (T := TX8) (N := 17) hx hb hts hi_X8_last_X8 hown hK.1 hP 0 rfl rfl 15 (by decide) (hts _ k_X8_last_2) (fun _ h9 => h9) rfl dX8_last_33 ?_
      refine lv_aload_n hx hb dX8_last_36 rfl (lv_at hl 0 rfl) ?_
      refine va_get (D := D) (ci := 7) (v := .ref (a 5)) (C := RX8) (T := TX8) (N := 17) hx hb hts hi_X8_last_X8 hown hK.1 hP 0 rfl rfl 4 (by decide) (hts _ k_X8_last_1) (fun _ h9 => h9) rfl dX8_last_37 ?_
      refine lv_iconst (v := (2)) hx hb dX8_last_40 (by decide) ?_
      refine x_iald (v := now 2) hx hb hK hP 5 rfl (vin_lit (by decide)) rfl dX8_last_41 ?_
      obtain ⟨hi, h⟩ := h
      refine x_lald (v := ways_4 (now 2).toNatClampNeg) hx hb hK hP 11 rfl hi rfl dX8_last_42 ?_
      refine lv_lstore_n (lv' := [(2, .long (ways_4 (now 2).toNatClampNeg)), (0, .ref (a 0)), (1, .int i)]) hx hb dX8_last_43 rfl hl (by decide) rfl (fun ls hl => ?_)
      refine lv_aload_n hx hb dX8_last_44 rfl (lv_at hl 1 rfl) ?_
      refine lv_iload_n hx hb dX8_last_45 rfl (lv_at hl 2 rfl) ?_
      refine wr_callv (ws1 := fun zu => W_X8 ca a rowSizes rows textSizes texts now keeps kept asked upper lower finding findings read at_ zu.1 zu.2 reach) (wr := ([] : List Nat).filterMap (fun zi => (W_X8 ca a rowSizes rows textSizes texts now keeps kept asked upper lower finding findings read at_ costs_3 ways_4 reach : va_W)[zi]?)) (n := 13) (va_runV (As := [.int i]) (rest := []) ⟨hx, hb, hml, hown, hts⟩ (c_X8_layOrders l D ca a rowSizes rows textSizes texts now keeps kept asked upper lower finding findings read at_ costs_3 ways_4 reach i _ (hD.subM [0, 1, 2, 3, 4, 5, 6, 7, 8, 9, 10, 11, 12] (by decide) rfl) h) (cwV 1 hts gX8_last_X8_layOrders rfl rfl rfl (by decide +kernel) ⟨Nat.le_of_ble_eq_true rfl, Nat.le_of_ble_eq_true rfl⟩) (PcX.preV (q := (RX8, TX8, 17)) (ci := 7) (q0 := 0) hK hP rfl rfl hP) rfl rfl hl.1 rfl (lv_room (Nat.le_of_ble_eq_true rfl)) dX8_last_46 ⟨Nat.le_of_ble_eq_true rfl, Nat.le_of_ble_eq_true rfl⟩) hP hD hS [0, 1, 2, 3, 4, 5, 6, 7, 8, 9, 10, 11, 12] [] rfl (fun _ => rfl) rfl (fun _ => rfl) (fun _ => rfl) (fun _ => rfl) (by decide +kernel) (by decide +kernel) (fun zu H locs h hP hD hS => ?_)
      obtain ⟨costs_5, ways_6⟩ := zu
      have hP : va_P D vwCl (W_X8 ca a rowSizes rows textSizes texts now keeps kept asked upper lower finding findings read at_ costs_5 ways_6 reach) H := hP
      have hD : va_D _ (W_X8 ca a rowSizes rows textSizes texts now keeps kept asked upper lower finding findings read at_ costs_5 ways_6 reach) := hD
      try dsimp only at h
      refine lv_aload_n hx hb dX8_last_49 rfl (lv_at hl 1 rfl) ?_
      refine lv_aload_n hx hb dX8_last_50 rfl (lv_at hl 1 rfl) ?_
      refine va_get (D := D) (ci := 7) (v := .ref (a 11)) (C := RX8) (T := TX8) (N := 17) hx hb hts hi_X8_last_X8 hown hK.1 hP 0 rfl rfl 15 (by decide) (hts _ k_X8_last_2) (fun _ h9 => h9) rfl dX8_last_51 ?_
      refine lv_aload_n hx hb dX8_last_54 rfl (lv_at hl 1 rfl) ?_
      refine va_get (D := D) (ci := 7) (v := .ref (a 5)) (C := RX8) (T := TX8) (N := 17) hx hb hts hi_X8_last_X8 hown hK.1 hP 0 rfl rfl 4 (by decide) (hts _ k_X8_last_1) (fun _ h9 => h9) rfl dX8_last_55 ?_
      refine lv_iconst (v := (2)) hx hb dX8_last_58 (by decide) ?_
      refine x_iald (v := now 2) hx hb hK hP 5 rfl (vin_lit (by decide)) rfl dX8_last_59 ?_
      obtain ⟨hi, h⟩ := h
      refine x_lald (v := ways_6 (now 2).toNatClampNeg) hx hb hK hP 11 rfl hi rfl dX8_last_60 ?_
      refine lv_lload_n hx hb dX8_last_61 rfl (lv_at hl 0 rfl) ?_
      refine wr_calli (ws1 := fun zu => W_X8 ca a rowSizes rows textSizes texts now keeps kept asked zu.1 zu.2 finding findings read at_ costs_5 ways_6 reach) (wr := ([] : List Nat).filterMap (fun zi => (W_X8 ca a rowSizes rows textSizes texts now keeps kept asked upper lower finding findings read at_ costs_5 ways_6 reach : va_W)[zi]?)) (n := 13) (va_runV (As := [.long (ways_6 (now 2).toNatClampNeg), .long (ways_4 (now 2).toNatClampNeg)]) (rest := []) ⟨hx, hb, hml, hown, hts⟩ (c_X8_fraction l D ca a rowSizes rows textSizes texts now keeps kept asked upper lower finding findings read at_ costs_5 ways_6 reach (ways_6 (now 2).toNatClampNeg) (ways_4 (now 2).toNatClampNeg) _ (hD.subM [0, 1, 2, 3, 4, 5, 6, 7, 8, 9, 10, 11, 12] (by decide) rfl) h) (cwV 2 hts gX8_last_X8_fraction rfl rfl rfl (by decide +kernel) ⟨Nat.le_of_ble_eq_true rfl, Nat.le_of_ble_eq_true rfl⟩) (PcX.preV (q := (RX8, TX8, 17)) (ci := 7) (q0 := 0) hK hP rfl rfl hP) rfl rfl hl.1 rfl (lv_room (Nat.le_of_ble_eq_true rfl)) dX8_last_62 ⟨Nat.le_of_ble_eq_true rfl, Nat.le_of_ble_eq_true rfl⟩) hP hD hS [0, 1, 2, 3, 4, 5, 6, 7, 8, 9, 10, 11, 12] [] rfl (fun _ => rfl) rfl (fun _ => rfl) (fun _ => rfl) (fun _ => rfl) (by decide +kernel) (by decide +kernel) (fun r7 zu H locs h hP hD hS => ?_)
      obtain ⟨upper_8, lower_9⟩ := zu
      have hP : va_P D vwCl (W_X8 ca a rowSizes rows textSizes texts now keeps kept asked upper_8 lower_9 finding findings read at_ costs_5 ways_6 reach) H := hP
      have hD : va_D _ (W_X8 ca a rowSizes rows textSizes texts now keeps kept asked upper_8 lower_9 finding findings read at_ costs_5 ways_6 reach) := hD
      try dsimp only at h
      exact W.iret (v := r7) hx hb hr (fun zt ht hW => ⟨⟨r7, (upper_8, lower_9, costs_5, ways_6), rfl, h, by rw [ht]; exact hP⟩, hS.F ht⟩) hS.2.2 dX8_last_65
    · have h := h.2 hc
      refine lv_bipush (v := (-4)) hx hb dX8_last_23 (by decide) ?_
      exact W.iret (v := (-4 : Int32)) hx hb hr (fun zt ht hW => ⟨⟨(-4 : Int32), (upper, lower, costs, ways), rfl, h, by rw [ht]; exact hP⟩, hS.F ht⟩) hS.2.2 dX8_last_25
  · have h := h.2 hc
    refine lv_iconst (v := (-1)) hx hb dX8_last_8 (by decide) ?_
    exact W.iret (v := (-1 : Int32)) hx hb hr (fun zt ht hW => ⟨⟨(-1 : Int32), (upper, lower, costs, ways), rfl, h, by rw [ht]; exact hP⟩, hS.F ht⟩) hS.2.2 dX8_last_9

-- IronedQuarrelsModel.end(II)I
def wb_X8_end_139 (now : Nat → Int32) (K82 : (Int32) → (Int32) → (Int32) → Prop) (asked : Int32) (x3 : Int32) (x4 : Int32) (s0 : Int32) : Prop :=
  wp_X8_has (now 2) x4 (fun r6 => (r6 = 0 → (K82 asked (x3 ||| (0 : Int32)) (x4 + 1))) ∧ (¬ r6 = 0 → ((s0 = 0 → (K82 asked (x3 ||| (0 : Int32)) (x4 + 1))) ∧ (¬ s0 = 0 → (K82 asked (x3 ||| ((1 : Int32) <<< (x4 &&& 31))) (x4 + 1))))))
def wb_X8_end_138 (now : Nat → Int32) (K82 : (Int32) → (Int32) → (Int32) → Prop) (asked : Int32) (x3 : Int32) (x4 : Int32) : Prop :=
  wb_X8_end_139 now K82 asked x3 x4 (0 : Int32)
def wb_X8_end_82 (now : Nat → Int32) (post : Int32 → (Int32) → Prop) (K82 : (Int32) → (Int32) → (Int32) → Prop) (asked : Int32) (x3 : Int32) (x4 : Int32) : Prop :=
  ((now 0) ≤ x4 → (wp_X8_bits x3 (fun r3 => wp_X8_answer x3 r3 (fun r4 asked_5 => post r4 asked_5)))) ∧ (¬ (now 0) ≤ x4 → (vp_in ((63 : Int32) + x4) 115 ∧ ((now ((63 : Int32) + x4).toNatClampNeg) = (-9 : Int32) → (wb_X8_end_138 now K82 asked x3 x4)) ∧ (¬ (now ((63 : Int32) + x4).toNatClampNeg) = (-9 : Int32) → (wp_X8_has x3 (now ((63 : Int32) + x4).toNatClampNeg) (fun r7 => (r7 = 0 → (wb_X8_end_138 now K82 asked x3 x4)) ∧ (¬ r7 = 0 → (vp_in ((3 : Int32) + (now ((63 : Int32) + x4).toNatClampNeg)) 115 ∧ ((now ((3 : Int32) + (now ((63 : Int32) + x4).toNatClampNeg)).toNatClampNeg) = (4 : Int32) → (wb_X8_end_138 now K82 asked x3 x4)) ∧ (¬ (now ((3 : Int32) + (now ((63 : Int32) + x4).toNatClampNeg)).toNatClampNeg) = (4 : Int32) → (wb_X8_end_139 now K82 asked x3 x4 (1 : Int32))))))))))
def wl_X8_end_82 (now : Nat → Int32) (post : Int32 → (Int32) → Prop) : Nat → (Int32) → (Int32) → (Int32) → Prop
  | 0 => fun _ _ _ => False
  | zn + 1 => wb_X8_end_82 now post (wl_X8_end_82 now post zn)
def wb_X8_end_26 (now : Nat → Int32) (p : Int32) (q : Int32) (post : Int32 → (Int32) → Prop) (K26 : (Int32) → (Int32) → (Int32) → Prop) (asked : Int32) (x3 : Int32) (x4 : Int32) : Prop :=
  ((now 0) ≤ x4 → (∃ zn, wl_X8_end_82 now post zn asked x3 (0 : Int32))) ∧ (¬ (now 0) ≤ x4 → (wp_X8_has (now 2) x4 (fun r8 => (r8 = 0 → (K26 asked (x3 ||| (0 : Int32)) (x4 + 1))) ∧ (¬ r8 = 0 → (wp_X8_isBetween now x4 p q (fun r9 => (r9 = 0 → (K26 asked (x3 ||| (0 : Int32)) (x4 + 1))) ∧ (¬ r9 = 0 → (K26 asked (x3 ||| ((1 : Int32) <<< (x4 &&& 31))) (x4 + 1)))))))))
def wl_X8_end_26 (now : Nat → Int32) (p : Int32) (q : Int32) (post : Int32 → (Int32) → Prop) : Nat → (Int32) → (Int32) → (Int32) → Prop
  | 0 => fun _ _ _ => False
  | zn + 1 => wb_X8_end_26 now p q post (wl_X8_end_26 now p q post zn)
def wp_X8_end (now : Nat → Int32) (asked : Int32) (p : Int32) (q : Int32) (post : Int32 → (Int32) → Prop) : Prop :=
  wp_X8_isPerson p (fun r1 => (r1 = 0 → (post (-1 : Int32) asked)) ∧ (¬ r1 = 0 → (wp_X8_isPerson q (fun r2 => (r2 = 0 → (post (-1 : Int32) asked)) ∧ (¬ r2 = 0 → ((¬ p = q → (∃ zn, wl_X8_end_26 now p q post zn asked (0 : Int32) (0 : Int32))) ∧ (p = q → (post (-1 : Int32) asked))))))))
def rm_X8_end : Room := { frames := 2, cells := 0, slots := 0, locals := 45 }
theorem k_X8_end_1 : Cond.fieldLink RX8 22 "IronedQuarrelsModel" "now" "[I" ∈ wsX8_end := List.mem_of_getElem? (i := 1) (by decide +kernel)
theorem hi_X8_end_X8 : ∀ w ∈ wsX80, w ∈ wsX8_end := fun w h => List.mem_cons_of_mem _ (List.mem_append_right _ h)
set_option maxHeartbeats 4000000 in
set_option maxRecDepth 100000 in
theorem c_X8_end (l : Launch) (D : va_G) (ca : Nat → ClassId) (a : Nat → Nat) (rowSizes : Nat → Int32) (rows : Nat → Int32) (textSizes : Nat → Int32) (texts : Nat → Int32) (now : Nat → Int32) (keeps : Nat → Int32) (kept : Nat → Int32) (asked : Int32) (upper : Int64) (lower : Int64) (finding : Int32) (findings : Nat → Int32) (read : Nat → Int32) (at_ : Int32) (costs : Nat → Int32) (ways : Nat → Int64) (reach : Nat → Int32) (p : Int32) (q : Int32) (post : Int32 → (Int32) → Prop) (hd : va_D (fun _ => True) (W_X8 ca a rowSizes rows textSizes texts now keeps kept asked upper lower finding findings read at_ costs ways reach)) (h : wp_X8_end now asked p q post) : Met l yX8_end wsX8_end rm_X8_end (PcX D ca [.ref (a 0), .int p, .int q] (W_X8 ca a rowSizes rows textSizes texts now keeps kept asked upper lower finding findings read at_ costs ways reach)) (wrI (S := (Int32)) D (W_X8 ca a rowSizes rows textSizes texts now keeps kept asked upper lower finding findings read at_ costs ways reach) (fun zu => W_X8 ca a rowSizes rows textSizes texts now keeps kept zu upper lower finding findings read at_ costs ways reach) (fun zr zu => post zr zu)) 0 0 (adr (W_X8 ca a rowSizes rows textSizes texts now keeps kept asked upper lower finding findings read at_ costs ways reach)) := by
  refine Met.ofW (cc := cX8_end) (maxL := 7) (ret := (some .int)) (by decide) rfl ?_
  intro zp ze zs zm za zb zt zc z1 B hml hv
  obtain ⟨rfl, hP, hK⟩ := hv
  have hx := B.exec
  have hb := B.bytes
  have hr := B.returns
  have hts := atoms_spec (ws := wsX8_end) B.pre
  have hown : zs.vm.findClass RX8 = some zm.cls := findClass_of_methodNamed B.named
  have hlocks := B.notSynchronized
  have hD : va_D (adr (W_X8 ca a rowSizes rows textSizes texts now keeps kept asked upper lower finding findings read at_ costs ways reach)) (W_X8 ca a rowSizes rows textSizes texts now keeps kept asked upper lower finding findings read at_ costs ways reach) := hd.adr
  have hS : va_S (adr (W_X8 ca a rowSizes rows textSizes texts now keeps kept asked upper lower finding findings read at_ costs ways reach)) zs.heap zs.heap [] := va_S.rf
  have hl := lv_entry ([.ref (a 0), .int p, .int q]) (n := 7) (Nat.le_of_ble_eq_true rfl)
  rw [lg_entry_eq]
  generalize (lg_sl ([.ref (a 0), .int p, .int q]) ++ List.replicate (7 - (lg_sl ([.ref (a 0), .int p, .int q])).length) Slot.unset).toArray = ls at hl ⊢
  replace hl : lv_has ls 7 [(0, .ref (a 0)), (1, .int p), (2, .int q)] := hl
  show W zp l ze rm_X8_end zs zm ([.ref (a 0), .int p, .int q] : List Value).toArray zb zt zc zs.heap [] 0 0 (MQ zb (wrI (S := (Int32)) D (W_X8 ca a rowSizes rows textSizes texts now keeps kept asked upper lower finding findings read at_ costs ways reach) (fun zu => W_X8 ca a rowSizes rows textSizes texts now keeps kept zu upper lower finding findings read at_ costs ways reach) (fun zr zu => post zr zu)) ([.ref (a 0), .int p, .int q] : List Value).toArray zs 0 0 (adr (W_X8 ca a rowSizes rows textSizes texts now keeps kept asked upper lower finding findings read at_ costs ways reach))) (F0 zm 0 ls [])
  have w_139 : ∀ (K82 : (Int32) → (Int32) → (Int32) → Prop) (ih82 : ∀ (asked : Int32) (x3 : Int32) (x4 : Int32), K82 asked x3 x4 → ∀ (H : Heap) (locs : List Loc), va_P D vwCl (W_X8 ca a rowSizes rows textSizes texts now keeps kept asked upper lower finding findings read at_ costs ways reach) H → va_D (adr (W_X8 ca a rowSizes rows textSizes texts now keeps kept asked upper lower finding findings read at_ costs ways reach)) (W_X8 ca a rowSizes rows textSizes texts now keeps kept asked upper lower finding findings read at_ costs ways reach) → va_S (adr (W_X8 ca a rowSizes rows textSizes texts now keeps kept asked upper lower finding findings read at_ costs ways reach)) zs.heap H locs → ∀ ls : Array Slot, lv_has ls 7 [(0, .ref (a 0)), (3, .int x3), (4, .int x4)] → W zp l ze rm_X8_end zs zm ([.ref (a 0), .int p, .int q] : List Value).toArray zb zt zc H locs 0 0 (MQ zb (wrI (S := (Int32)) D (W_X8 ca a rowSizes rows textSizes texts now keeps kept asked upper lower finding findings read at_ costs ways reach) (fun zu => W_X8 ca a rowSizes rows textSizes texts now keeps kept zu upper lower finding findings read at_ costs ways reach) (fun zr zu => post zr zu)) ([.ref (a 0), .int p, .int q] : List Value).toArray zs 0 0 (adr (W_X8 ca a rowSizes rows textSizes texts now keeps kept asked upper lower finding findings read at_ costs ways reach))) (F0 zm 82 ls [])) (asked : Int32) (x3 : Int32) (x4 : Int32) (s0 : Int32), wb_X8_end_139 now K82 asked x3 x4 s0 → ∀ (H : Heap) (locs : List Loc), va_P D vwCl (W_X8 ca a rowSizes rows textSizes texts now keeps kept asked upper lower finding findings read at_ costs ways reach) H → va_D (adr (W_X8 ca a rowSizes rows textSizes texts now keeps kept asked upper lower finding findings read at_ costs ways reach)) (W_X8 ca a rowSizes rows textSizes texts now keeps kept asked upper lower finding findings read at_ costs ways reach) → va_S (adr (W_X8 ca a rowSizes rows textSizes texts now keeps kept asked upper lower finding findings read at_ costs ways reach)) zs.heap H locs → ∀ ls : Array Slot, lv_has ls 7 [(0, .ref (a 0)), (3, .int x3), (4, .int x4)] → W zp l ze rm_X8_end zs zm ([.ref (a 0), .int p, .int q] : List Value).toArray zb zt zc H locs 0 0 (MQ zb (wrI (S := (Int32)) D (W_X8 ca a rowSizes rows textSizes texts now keeps kept asked upper lower finding findings read at_ costs ways reach) (fun zu => W_X8 ca a rowSizes rows textSizes texts now keeps kept zu upper lower finding findings read at_ costs ways reach) (fun zr zu => post zr zu)) ([.ref (a 0), .int p, .int q] : List Value).toArray zs 0 0 (adr (W_X8 ca a rowSizes rows textSizes texts now keeps kept asked upper lower finding findings read at_ costs ways reach))) (F0 zm 139 ls [.int s0]) := by
    intro K82 ih82 asked x3 x4 s0 h H locs hP hD hS ls hl
    unfold wb_X8_end_139 at h
    refine lv_istore (lv' := [(6, .int s0), (0, .ref (a 0)), (3, .int x3), (4, .int x4)]) hx hb dX8_end_139 hl (by decide) rfl (fun ls hl => ?_)
    refine lv_iload_n hx hb dX8_end_141 rfl (lv_at hl 2 rfl) ?_
    refine lv_aload_n hx hb dX8_end_142 rfl (lv_at hl 1 rfl) ?_
    refine va_get (D := D) (ci := 7) (v := .ref (a 5)) (C := RX8) (T := TX8) (N := 17) hx hb hts hi_X8_end_X8 hown hK.1 hP 0 rfl rfl 4 (by decide) (hts _ k_X8_end_1) (fun _ h9 => h9) rfl dX8_end_143 ?_
    refine lv_iconst (v := (2)) hx hb dX8_end_146 (by decide) ?_
    refine x_iald (v := now 2) hx hb hK hP 5 rfl (vin_lit (by decide)) rfl dX8_end_147 ?_
    refine lv_iload hx hb dX8_end_148 (lv_at hl 3 rfl) ?_
    refine rd_callz (va_runS (As := [.int (now 2), .int x4]) (rest := [.int x3]) ⟨hx, hb, hml, hown, hts⟩ (c_X8_has l D ca   (now 2) x4 _ h) (va_cwS 2 hts gX8_end_X8_has rfl rfl rfl (by decide +kernel) ⟨Nat.le_of_ble_eq_true rfl, Nat.le_of_ble_eq_true rfl⟩) (PcX.preS hK (fun zk zq zh => by simp at zh)) rfl rfl hl.1 rfl (lv_room (Nat.le_of_ble_eq_true rfl)) dX8_end_150 ⟨Nat.le_of_ble_eq_true rfl, Nat.le_of_ble_eq_true rfl⟩) (fun r6 h hz_r6 => ?_)
    try dsimp only at h
    refine lv_if_eq (tgt := 168) hx hb dX8_end_153 (by decide) (fun hc => ?_) (fun hc => ?_)
    · have h := h.1 hc
      refine lv_iconst (v := (0)) hx hb dX8_end_168 (by decide) ?_
      refine lv_ior hx hb dX8_end_169 ?_
      refine lv_istore_n (lv' := [(3, .int (x3 ||| (0 : Int32))), (6, .int s0), (0, .ref (a 0)), (4, .int x4)]) hx hb dX8_end_170 rfl hl (by decide) rfl (fun ls hl => ?_)
      refine lv_iinc (v := x4 + 1) (lv' := [(4, .int (x4 + 1)), (3, .int (x3 ||| (0 : Int32))), (6, .int s0), (0, .ref (a 0))]) hx hb dX8_end_171 hl (k := 3) rfl rfl (by decide) rfl (fun ls hl => ?_)
      refine lv_goto (tgt := 82) hx hb dX8_end_174 (by decide) ?_
      exact ih82 asked (x3 ||| (0 : Int32)) (x4 + 1) h _ _ hP hD hS ls (lv_sub hl [3, 1, 0] rfl)
    · have h := h.2 hc
      refine lv_iload hx hb dX8_end_156 (lv_at hl 0 rfl) ?_
      refine lv_if_eq (tgt := 168) hx hb dX8_end_158 (by decide) (fun hc => ?_) (fun hc => ?_)
      · have h := h.1 hc
        refine lv_iconst (v := (0)) hx hb dX8_end_168 (by decide) ?_
        refine lv_ior hx hb dX8_end_169 ?_
        refine lv_istore_n (lv' := [(3, .int (x3 ||| (0 : Int32))), (6, .int s0), (0, .ref (a 0)), (4, .int x4)]) hx hb dX8_end_170 rfl hl (by decide) rfl (fun ls hl => ?_)
        refine lv_iinc (v := x4 + 1) (lv' := [(4, .int (x4 + 1)), (3, .int (x3 ||| (0 : Int32))), (6, .int s0), (0, .ref (a 0))]) hx hb dX8_end_171 hl (k := 3) rfl rfl (by decide) rfl (fun ls hl => ?_)
        refine lv_goto (tgt := 82) hx hb dX8_end_174 (by decide) ?_
        exact ih82 asked (x3 ||| (0 : Int32)) (x4 + 1) h _ _ hP hD hS ls (lv_sub hl [3, 1, 0] rfl)
      · have h := h.2 hc
        refine lv_iconst (v := (1)) hx hb dX8_end_161 (by decide) ?_
        refine lv_iload hx hb dX8_end_162 (lv_at hl 3 rfl) ?_
        refine lv_ishl hx hb dX8_end_164 ?_
        refine lv_goto (tgt := 169) hx hb dX8_end_165 (by decide) ?_
        refine lv_ior hx hb dX8_end_169 ?_
        refine lv_istore_n (lv' := [(3, .int (x3 ||| ((1 : Int32) <<< (x4 &&& 31)))), (6, .int s0), (0, .ref (a 0)), (4, .int x4)]) hx hb dX8_end_170 rfl hl (by decide) rfl (fun ls hl => ?_)
        refine lv_iinc (v := x4 + 1) (lv' := [(4, .int (x4 + 1)), (3, .int (x3 ||| ((1 : Int32) <<< (x4 &&& 31)))), (6, .int s0), (0, .ref (a 0))]) hx hb dX8_end_171 hl (k := 3) rfl rfl (by decide) rfl (fun ls hl => ?_)
        refine lv_goto (tgt := 82) hx hb dX8_end_174 (by decide) ?_
        exact ih82 asked (x3 ||| ((1 : Int32) <<< (x4 &&& 31))) (x4 + 1) h _ _ hP hD hS ls (lv_sub hl [3, 1, 0] rfl)
  have w_138 : ∀ (K82 : (Int32) → (Int32) → (Int32) → Prop) (ih82 : ∀ (asked : Int32) (x3 : Int32) (x4 : Int32), K82 asked x3 x4 → ∀ (H : Heap) (locs : List Loc), va_P D vwCl (W_X8 ca a rowSizes rows textSizes texts now keeps kept asked upper lower finding findings read at_ costs ways reach) H → va_D (adr (W_X8 ca a rowSizes rows textSizes texts now keeps kept asked upper lower finding findings read at_ costs ways reach)) (W_X8 ca a rowSizes rows textSizes texts now keeps kept asked upper lower finding findings read at_ costs ways reach) → va_S (adr (W_X8 ca a rowSizes rows textSizes texts now keeps kept asked upper lower finding findings read at_ costs ways reach)) zs.heap H locs → ∀ ls : Array Slot, lv_has ls 7 [(0, .ref (a 0)), (3, .int x3), (4, .int x4)] → W zp l ze rm_X8_end zs zm ([.ref (a 0), .int p, .int q] : List Value).toArray zb zt zc H locs 0 0 (MQ zb (wrI (S := (Int32)) D (W_X8 ca a rowSizes rows textSizes texts now keeps kept asked upper lower finding findings read at_ costs ways reach) (fun zu => W_X8 ca a rowSizes rows textSizes texts now keeps kept zu upper lower finding findings read at_ costs ways reach) (fun zr zu => post zr zu)) ([.ref (a 0), .int p, .int q] : List Value).toArray zs 0 0 (adr (W_X8 ca a rowSizes rows textSizes texts now keeps kept asked upper lower finding findings read at_ costs ways reach))) (F0 zm 82 ls [])) (asked : Int32) (x3 : Int32) (x4 : Int32), wb_X8_end_138 now K82 asked x3 x4 → ∀ (H : Heap) (locs : List Loc), va_P D vwCl (W_X8 ca a rowSizes rows textSizes texts now keeps kept asked upper lower finding findings read at_ costs ways reach) H → va_D (adr (W_X8 ca a rowSizes rows textSizes texts now keeps kept asked upper lower finding findings read at_ costs ways reach)) (W_X8 ca a rowSizes rows textSizes texts now keeps kept asked upper lower finding findings read at_ costs ways reach) → va_S (adr (W_X8 ca a rowSizes rows textSizes texts now keeps kept asked upper lower finding findings read at_ costs ways reach)) zs.heap H locs → ∀ ls : Array Slot, lv_has ls 7 [(0, .ref (a 0)), (3, .int x3), (4, .int x4)] → W zp l ze rm_X8_end zs zm ([.ref (a 0), .int p, .int q] : List Value).toArray zb zt zc H locs 0 0 (MQ zb (wrI (S := (Int32)) D (W_X8 ca a rowSizes rows textSizes texts now keeps kept asked upper lower finding findings read at_ costs ways reach) (fun zu => W_X8 ca a rowSizes rows textSizes texts now keeps kept zu upper lower finding findings read at_ costs ways reach) (fun zr zu => post zr zu)) ([.ref (a 0), .int p, .int q] : List Value).toArray zs 0 0 (adr (W_X8 ca a rowSizes rows textSizes texts now keeps kept asked upper lower finding findings read at_ costs ways reach))) (F0 zm 138 ls []) := by
    intro K82 ih82 asked x3 x4 h H locs hP hD hS ls hl
    unfold wb_X8_end_138 at h
    refine lv_iconst (v := (0)) hx hb dX8_end_138 (by decide) ?_
    exact w_139 _ ih82 asked x3 x4 (0 : Int32) h _ _ hP hD hS ls (lv_sub hl [0, 1, 2] rfl)
  have w_82 : ∀ (zn : Nat) (asked : Int32) (x3 : Int32) (x4 : Int32), wl_X8_end_82 now post zn asked x3 x4 → ∀ (H : Heap) (locs : List Loc), va_P D vwCl (W_X8 ca a rowSizes rows textSizes texts now keeps kept asked upper lower finding findings read at_ costs ways reach) H → va_D (adr (W_X8 ca a rowSizes rows textSizes texts now keeps kept asked upper lower finding findings read at_ costs ways reach)) (W_X8 ca a rowSizes rows textSizes texts now keeps kept asked upper lower finding findings read at_ costs ways reach) → va_S (adr (W_X8 ca a rowSizes rows textSizes texts now keeps kept asked upper lower finding findings read at_ costs ways reach)) zs.heap H locs → ∀ ls : Array Slot, lv_has ls 7 [(0, .ref (a 0)), (3, .int x3), (4, .int x4)] → W zp l ze rm_X8_end zs zm ([.ref (a 0), .int p, .int q] : List Value).toArray zb zt zc H locs 0 0 (MQ zb (wrI (S := (Int32)) D (W_X8 ca a rowSizes rows textSizes texts now keeps kept asked upper lower finding findings read at_ costs ways reach) (fun zu => W_X8 ca a rowSizes rows textSizes texts now keeps kept zu upper lower finding findings read at_ costs ways reach) (fun zr zu => post zr zu)) ([.ref (a 0), .int p, .int q] : List Value).toArray zs 0 0 (adr (W_X8 ca a rowSizes rows textSizes texts now keeps kept asked upper lower finding findings read at_ costs ways reach))) (F0 zm 82 ls []) := by
    intro zn
    induction zn with
    | zero => intro asked x3 x4 h; exact h.elim
    | succ zn ih82 =>
      intro asked x3 x4 h H locs hP hD hS ls hl
      replace h : wb_X8_end_82 now post (wl_X8_end_82 now post zn) asked x3 x4 := h
      unfold wb_X8_end_82 at h
      refine lv_iload hx hb dX8_end_82 (lv_at hl 2 rfl) ?_
      refine lv_aload_n hx hb dX8_end_84 rfl (lv_at hl 0 rfl) ?_
      refine va_get (D := D) (ci := 7) (v := .ref (a 5)) (C := RX8) (T := TX8) (N := 17) hx hb hts hi_X8_end_X8 hown hK.1 hP 0 rfl rfl 4 (by decide) (hts _ k_X8_end_1) (fun _ h9 => h9) rfl dX8_end_85 ?_
      refine lv_iconst (v := (0)) hx hb dX8_end_88 (by decide) ?_
      refine x_iald (v := now 0) hx hb hK hP 5 rfl (vin_lit (by decide)) rfl dX8_end_89 ?_
      refine lv_icmp_ge (tgt := 177) hx hb dX8_end_90 (by decide) (fun hc => ?_) (fun hc => ?_)
      · have h := h.1 hc
        refine lv_aload_n hx hb dX8_end_177 rfl (lv_at hl 0 rfl) ?_
        refine lv_iload_n hx hb dX8_end_178 rfl (lv_at hl 1 rfl) ?_
        refine lv_iload_n hx hb dX8_end_179 rfl (lv_at hl 1 rfl) ?_
        refine rd_calli (va_runS (As := [.int x3]) (rest := [.int x3, .ref (a 0)]) ⟨hx, hb, hml, hown, hts⟩ (c_X8_bits l D ca   x3 _ h) (va_cwS 1 hts gX8_end_X8_bits rfl rfl rfl (by decide +kernel) ⟨Nat.le_of_ble_eq_true rfl, Nat.le_of_ble_eq_true rfl⟩) (PcX.preS hK (fun zk zq zh => by simp at zh)) rfl rfl hl.1 rfl (lv_room (Nat.le_of_ble_eq_true rfl)) dX8_end_180 ⟨Nat.le_of_ble_eq_true rfl, Nat.le_of_ble_eq_true rfl⟩) (fun r3 h => ?_)
        try dsimp only at h
        refine wr_calli (ws1 := fun zu => W_X8 ca a rowSizes rows textSizes texts now keeps kept zu upper lower finding findings read at_ costs ways reach) (wr := ([] : List Nat).filterMap (fun zi => (W_X8 ca a rowSizes rows textSizes texts now keeps kept asked upper lower finding findings read at_ costs ways reach : va_W)[zi]?)) (n := 13) (va_runV (As := [.int x3, .int r3]) (rest := []) ⟨hx, hb, hml, hown, hts⟩ (c_X8_answer l D ca a rowSizes rows textSizes texts now keeps kept asked upper lower finding findings read at_ costs ways reach x3 r3 _ (hD.subM [0, 1, 2, 3, 4, 5, 6, 7, 8, 9, 10, 11, 12] (by decide) rfl) h) (cwV 2 hts gX8_end_X8_answer rfl rfl rfl (by decide +kernel) ⟨Nat.le_of_ble_eq_true rfl, Nat.le_of_ble_eq_true rfl⟩) (PcX.preV (q := (RX8, TX8, 17)) (ci := 7) (q0 := 0) hK hP rfl rfl hP) rfl rfl hl.1 rfl (lv_room (Nat.le_of_ble_eq_true rfl)) dX8_end_183 ⟨Nat.le_of_ble_eq_true rfl, Nat.le_of_ble_eq_true rfl⟩) hP hD hS [0, 1, 2, 3, 4, 5, 6, 7, 8, 9, 10, 11, 12] [] rfl (fun _ => rfl) rfl (fun _ => rfl) (fun _ => rfl) (fun _ => rfl) (by decide +kernel) (by decide +kernel) (fun r4 zu H locs h hP hD hS => ?_)
        obtain ⟨asked_5, rfl⟩ : ∃ zz, zz = zu := ⟨zu, rfl⟩
        have hP : va_P D vwCl (W_X8 ca a rowSizes rows textSizes texts now keeps kept asked_5 upper lower finding findings read at_ costs ways reach) H := hP
        have hD : va_D _ (W_X8 ca a rowSizes rows textSizes texts now keeps kept asked_5 upper lower finding findings read at_ costs ways reach) := hD
        try dsimp only at h
        exact W.iret (v := r4) hx hb hr (fun zt ht hW => ⟨⟨r4, asked_5, rfl, h, by rw [ht]; exact hP⟩, hS.F ht⟩) hS.2.2 dX8_end_186
      · have h := h.2 hc
        refine lv_aload_n hx hb dX8_end_93 rfl (lv_at hl 0 rfl) ?_
        refine va_get (D := D) (ci := 7) (v := .ref (a 5)) (C := RX8) (T := TX8) (N := 17) hx hb hts hi_X8_end_X8 hown hK.1 hP 0 rfl rfl 4 (by decide) (hts _ k_X8_end_1) (fun _ h9 => h9) rfl dX8_end_94 ?_
        refine lv_bipush (v := (63)) hx hb dX8_end_97 (by decide) ?_
        refine lv_iload hx hb dX8_end_99 (lv_at hl 2 rfl) ?_
        refine lv_iadd hx hb dX8_end_101 ?_
        obtain ⟨hi, h⟩ := h
        refine x_iald (v := now ((63 : Int32) + x4).toNatClampNeg) hx hb hK hP 5 rfl hi rfl dX8_end_102 ?_
        refine lv_istore (lv' := [(5, .int (now ((63 : Int32) + x4).toNatClampNeg)), (0, .ref (a 0)), (3, .int x3), (4, .int x4)]) hx hb dX8_end_103 hl (by decide) rfl (fun ls hl => ?_)
        refine lv_iload hx hb dX8_end_105 (lv_at hl 0 rfl) ?_
        refine lv_bipush (v := (-9)) hx hb dX8_end_107 (by decide) ?_
        refine lv_icmp_eq (tgt := 138) hx hb dX8_end_109 (by decide) (fun hc => ?_) (fun hc => ?_)
        · have h := h.1 hc
          exact w_138 _ ih82 asked x3 x4 h _ _ hP hD hS ls (lv_sub hl [1, 2, 3] rfl)
        · have h := h.2 hc
          refine lv_iload_n hx hb dX8_end_112 rfl (lv_at hl 2 rfl) ?_
          refine lv_iload hx hb dX8_end_113 (lv_at hl 0 rfl) ?_
          refine rd_callz (va_runS (As := [.int x3, .int (now ((63 : Int32) + x4).toNatClampNeg)]) (rest := []) ⟨hx, hb, hml, hown, hts⟩ (c_X8_has l D ca   x3 (now ((63 : Int32) + x4).toNatClampNeg) _ h) (va_cwS 2 hts gX8_end_X8_has rfl rfl rfl (by decide +kernel) ⟨Nat.le_of_ble_eq_true rfl, Nat.le_of_ble_eq_true rfl⟩) (PcX.preS hK (fun zk zq zh => by simp at zh)) rfl rfl hl.1 rfl (lv_room (Nat.le_of_ble_eq_true rfl)) dX8_end_115 ⟨Nat.le_of_ble_eq_true rfl, Nat.le_of_ble_eq_true rfl⟩) (fun r7 h hz_r7 => ?_)
          try dsimp only at h
          refine lv_if_eq (tgt := 138) hx hb dX8_end_118 (by decide) (fun hc => ?_) (fun hc => ?_)
          · have h := h.1 hc
            exact w_138 _ ih82 asked x3 x4 h _ _ hP hD hS ls (lv_sub hl [1, 2, 3] rfl)
          · have h := h.2 hc
            refine lv_aload_n hx hb dX8_end_121 rfl (lv_at hl 1 rfl) ?_
            refine va_get (D := D) (ci := 7) (v := .ref (a 5)) (C := RX8) (T := TX8) (N := 17) hx hb hts hi_X8_end_X8 hown hK.1 hP 0 rfl rfl 4 (by decide) (hts _ k_X8_end_1) (fun _ h9 => h9) rfl dX8_end_122 ?_
            refine lv_iconst (v := (3)) hx hb dX8_end_125 (by decide) ?_
            refine lv_iload hx hb dX8_end_126 (lv_at hl 0 rfl) ?_
            refine lv_iadd hx hb dX8_end_128 ?_
            obtain ⟨hi, h⟩ := h
            refine x_iald (v := now ((3 : Int32) + (now ((63 : Int32) + x4).toNatClampNeg)).toNatClampNeg) hx hb hK hP 5 rfl hi rfl dX8_end_129 ?_
            refine lv_iconst (v := (4)) hx hb dX8_end_130 (by decide) ?_
            refine lv_icmp_eq (tgt := 138) hx hb dX8_end_131 (by decide) (fun hc => ?_) (fun hc => ?_)
            · have h := h.1 hc
              exact w_138 _ ih82 asked x3 x4 h _ _ hP hD hS ls (lv_sub hl [1, 2, 3] rfl)
            · have h := h.2 hc
              refine lv_iconst (v := (1)) hx hb dX8_end_134 (by decide) ?_
              refine lv_goto (tgt := 139) hx hb dX8_end_135 (by decide) ?_
              exact w_139 _ ih82 asked x3 x4 (1 : Int32) h _ _ hP hD hS ls (lv_sub hl [1, 2, 3] rfl)
  have w_26 : ∀ (zn : Nat) (asked : Int32) (x3 : Int32) (x4 : Int32), wl_X8_end_26 now p q post zn asked x3 x4 → ∀ (H : Heap) (locs : List Loc), va_P D vwCl (W_X8 ca a rowSizes rows textSizes texts now keeps kept asked upper lower finding findings read at_ costs ways reach) H → va_D (adr (W_X8 ca a rowSizes rows textSizes texts now keeps kept asked upper lower finding findings read at_ costs ways reach)) (W_X8 ca a rowSizes rows textSizes texts now keeps kept asked upper lower finding findings read at_ costs ways reach) → va_S (adr (W_X8 ca a rowSizes rows textSizes texts now keeps kept asked upper lower finding findings read at_ costs ways reach)) zs.heap H locs → ∀ ls : Array Slot, lv_has ls 7 [(0, .ref (a 0)), (1, .int p), (2, .int q), (3, .int x3), (4, .int x4)] → W zp l ze rm_X8_end zs zm ([.ref (a 0), .int p, .int q] : List Value).toArray zb zt zc H locs 0 0 (MQ zb (wrI (S := (Int32)) D (W_X8 ca a rowSizes rows textSizes texts now keeps kept asked upper lower finding findings read at_ costs ways reach) (fun zu => W_X8 ca a rowSizes rows textSizes texts now keeps kept zu upper lower finding findings read at_ costs ways reach) (fun zr zu => post zr zu)) ([.ref (a 0), .int p, .int q] : List Value).toArray zs 0 0 (adr (W_X8 ca a rowSizes rows textSizes texts now keeps kept asked upper lower finding findings read at_ costs ways reach))) (F0 zm 26 ls []) := by
    intro zn
    induction zn with
    | zero => intro asked x3 x4 h; exact h.elim
    | succ zn ih26 =>
      intro asked x3 x4 h H locs hP hD hS ls hl
      replace h : wb_X8_end_26 now p q post (wl_X8_end_26 now p q post zn) asked x3 x4 := h
      unfold wb_X8_end_26 at h
      refine lv_iload hx hb dX8_end_26 (lv_at hl 4 rfl) ?_
      refine lv_aload_n hx hb dX8_end_28 rfl (lv_at hl 0 rfl) ?_
      refine va_get (D := D) (ci := 7) (v := .ref (a 5)) (C := RX8) (T := TX8) (N := 17) hx hb hts hi_X8_end_X8 hown hK.1 hP 0 rfl rfl 4 (by decide) (hts _ k_X8_end_1) (fun _ h9 => h9) rfl dX8_end_29 ?_
      refine lv_iconst (v := (0)) hx hb dX8_end_32 (by decide) ?_
      refine x_iald (v := now 0) hx hb hK hP 5 rfl (vin_lit (by decide)) rfl dX8_end_33 ?_
      refine lv_icmp_ge (tgt := 79) hx hb dX8_end_34 (by decide) (fun hc => ?_) (fun hc => ?_)
      · have h := h.1 hc
        refine lv_iconst (v := (0)) hx hb dX8_end_79 (by decide) ?_
        refine lv_istore (lv' := [(4, .int (0 : Int32)), (0, .ref (a 0)), (1, .int p), (2, .int q), (3, .int x3)]) hx hb dX8_end_80 hl (by decide) rfl (fun ls hl => ?_)
        obtain ⟨zn, h⟩ := h
        exact w_82  zn asked x3 (0 : Int32) h _ _ hP hD hS ls (lv_sub hl [1, 4, 0] rfl)
      · have h := h.2 hc
        refine lv_iload_n hx hb dX8_end_37 rfl (lv_at hl 3 rfl) ?_
        refine lv_aload_n hx hb dX8_end_38 rfl (lv_at hl 0 rfl) ?_
        refine va_get (D := D) (ci := 7) (v := .ref (a 5)) (C := RX8) (T := TX8) (N := 17) hx hb hts hi_X8_end_X8 hown hK.1 hP 0 rfl rfl 4 (by decide) (hts _ k_X8_end_1) (fun _ h9 => h9) rfl dX8_end_39 ?_
        refine lv_iconst (v := (2)) hx hb dX8_end_42 (by decide) ?_
        refine x_iald (v := now 2) hx hb hK hP 5 rfl (vin_lit (by decide)) rfl dX8_end_43 ?_
        refine lv_iload hx hb dX8_end_44 (lv_at hl 4 rfl) ?_
        refine rd_callz (va_runS (As := [.int (now 2), .int x4]) (rest := [.int x3]) ⟨hx, hb, hml, hown, hts⟩ (c_X8_has l D ca   (now 2) x4 _ h) (va_cwS 2 hts gX8_end_X8_has rfl rfl rfl (by decide +kernel) ⟨Nat.le_of_ble_eq_true rfl, Nat.le_of_ble_eq_true rfl⟩) (PcX.preS hK (fun zk zq zh => by simp at zh)) rfl rfl hl.1 rfl (lv_room (Nat.le_of_ble_eq_true rfl)) dX8_end_46 ⟨Nat.le_of_ble_eq_true rfl, Nat.le_of_ble_eq_true rfl⟩) (fun r8 h hz_r8 => ?_)
        try dsimp only at h
        refine lv_if_eq (tgt := 70) hx hb dX8_end_49 (by decide) (fun hc => ?_) (fun hc => ?_)
        · have h := h.1 hc
          refine lv_iconst (v := (0)) hx hb dX8_end_70 (by decide) ?_
          refine lv_ior hx hb dX8_end_71 ?_
          refine lv_istore_n (lv' := [(3, .int (x3 ||| (0 : Int32))), (0, .ref (a 0)), (1, .int p), (2, .int q), (4, .int x4)]) hx hb dX8_end_72 rfl hl (by decide) rfl (fun ls hl => ?_)
          refine lv_iinc (v := x4 + 1) (lv' := [(4, .int (x4 + 1)), (3, .int (x3 ||| (0 : Int32))), (0, .ref (a 0)), (1, .int p), (2, .int q)]) hx hb dX8_end_73 hl (k := 4) rfl rfl (by decide) rfl (fun ls hl => ?_)
          refine lv_goto (tgt := 26) hx hb dX8_end_76 (by decide) ?_
          exact ih26 asked (x3 ||| (0 : Int32)) (x4 + 1) h _ _ hP hD hS ls (lv_sub hl [2, 3, 4, 1, 0] rfl)
        · have h := h.2 hc
          refine lv_aload_n hx hb dX8_end_52 rfl (lv_at hl 0 rfl) ?_
          refine lv_iload hx hb dX8_end_53 (lv_at hl 4 rfl) ?_
          refine lv_iload_n hx hb dX8_end_55 rfl (lv_at hl 1 rfl) ?_
          refine lv_iload_n hx hb dX8_end_56 rfl (lv_at hl 2 rfl) ?_
          refine rd_callz (va_runV (As := [.int x4, .int p, .int q]) (rest := [.int x3]) ⟨hx, hb, hml, hown, hts⟩ (c_X8_isBetween l D ca a rowSizes rows textSizes texts now keeps kept asked upper lower finding findings read at_ costs ways reach x4 p q _ h) (cwV 3 hts gX8_end_X8_isBetween rfl rfl rfl (by decide +kernel) ⟨Nat.le_of_ble_eq_true rfl, Nat.le_of_ble_eq_true rfl⟩) (PcX.preV (q := (RX8, TX8, 17)) (ci := 7) (q0 := 0) hK hP rfl rfl hP) rfl rfl hl.1 rfl (lv_room (Nat.le_of_ble_eq_true rfl)) dX8_end_57 ⟨Nat.le_of_ble_eq_true rfl, Nat.le_of_ble_eq_true rfl⟩) (fun r9 h hz_r9 => ?_)
          try dsimp only at h
          refine lv_if_eq (tgt := 70) hx hb dX8_end_60 (by decide) (fun hc => ?_) (fun hc => ?_)
          · have h := h.1 hc
            refine lv_iconst (v := (0)) hx hb dX8_end_70 (by decide) ?_
            refine lv_ior hx hb dX8_end_71 ?_
            refine lv_istore_n (lv' := [(3, .int (x3 ||| (0 : Int32))), (0, .ref (a 0)), (1, .int p), (2, .int q), (4, .int x4)]) hx hb dX8_end_72 rfl hl (by decide) rfl (fun ls hl => ?_)
            refine lv_iinc (v := x4 + 1) (lv' := [(4, .int (x4 + 1)), (3, .int (x3 ||| (0 : Int32))), (0, .ref (a 0)), (1, .int p), (2, .int q)]) hx hb dX8_end_73 hl (k := 4) rfl rfl (by decide) rfl (fun ls hl => ?_)
            refine lv_goto (tgt := 26) hx hb dX8_end_76 (by decide) ?_
            exact ih26 asked (x3 ||| (0 : Int32)) (x4 + 1) h _ _ hP hD hS ls (lv_sub hl [2, 3, 4, 1, 0] rfl)
          · have h := h.2 hc
            refine lv_iconst (v := (1)) hx hb dX8_end_63 (by decide) ?_
            refine lv_iload hx hb dX8_end_64 (lv_at hl 4 rfl) ?_
            refine lv_ishl hx hb dX8_end_66 ?_
            refine lv_goto (tgt := 71) hx hb dX8_end_67 (by decide) ?_
            refine lv_ior hx hb dX8_end_71 ?_
            refine lv_istore_n (lv' := [(3, .int (x3 ||| ((1 : Int32) <<< (x4 &&& 31)))), (0, .ref (a 0)), (1, .int p), (2, .int q), (4, .int x4)]) hx hb dX8_end_72 rfl hl (by decide) rfl (fun ls hl => ?_)
            refine lv_iinc (v := x4 + 1) (lv' := [(4, .int (x4 + 1)), (3, .int (x3 ||| ((1 : Int32) <<< (x4 &&& 31)))), (0, .ref (a 0)), (1, .int p), (2, .int q)]) hx hb dX8_end_73 hl (k := 4) rfl rfl (by decide) rfl (fun ls hl => ?_)
            refine lv_goto (tgt := 26) hx hb dX8_end_76 (by decide) ?_
            exact ih26 asked (x3 ||| ((1 : Int32) <<< (x4 &&& 31))) (x4 + 1) h _ _ hP hD hS ls (lv_sub hl [2, 3, 4, 1, 0] rfl)
  unfold wp_X8_end at h
  refine lv_iload_n hx hb dX8_end_0 rfl (lv_at hl 1 rfl) ?_
  refine rd_callz (va_runS (As := [.int p]) (rest := []) ⟨hx, hb, hml, hown, hts⟩ (c_X8_isPerson l D ca   p _ h) (va_cwS 1 hts gX8_end_X8_isPerson rfl rfl rfl (by decide +kernel) ⟨Nat.le_of_ble_eq_true rfl, Nat.le_of_ble_eq_true rfl⟩) (PcX.preS hK (fun zk zq zh => by simp at zh)) rfl rfl hl.1 rfl (lv_room (Nat.le_of_ble_eq_true rfl)) dX8_end_1 ⟨Nat.le_of_ble_eq_true rfl, Nat.le_of_ble_eq_true rfl⟩) (fun r1 h hz_r1 => ?_)
  try dsimp only at h
  refine lv_if_eq (tgt := 19) hx hb dX8_end_4 (by decide) (fun hc => ?_) (fun hc => ?_)
  · have h := h.1 hc
    refine lv_iconst (v := (-1)) hx hb dX8_end_19 (by decide) ?_
    exact W.iret (v := (-1 : Int32)) hx hb hr (fun zt ht hW => ⟨⟨(-1 : Int32), asked, rfl, h, by rw [ht]; exact hP⟩, hS.F ht⟩) hS.2.2 dX8_end_20
  · have h := h.2 hc
    refine lv_iload_n hx hb dX8_end_7 rfl (lv_at hl 2 rfl) ?_
    refine rd_callz (va_runS (As := [.int q]) (rest := []) ⟨hx, hb, hml, hown, hts⟩ (c_X8_isPerson l D ca   q _ h) (va_cwS 1 hts gX8_end_X8_isPerson rfl rfl rfl (by decide +kernel) ⟨Nat.le_of_ble_eq_true rfl, Nat.le_of_ble_eq_true rfl⟩) (PcX.preS hK (fun zk zq zh => by simp at zh)) rfl rfl hl.1 rfl (lv_room (Nat.le_of_ble_eq_true rfl)) dX8_end_8 ⟨Nat.le_of_ble_eq_true rfl, Nat.le_of_ble_eq_true rfl⟩) (fun r2 h hz_r2 => ?_)
    try dsimp only at h
    refine lv_if_eq (tgt := 19) hx hb dX8_end_11 (by decide) (fun hc => ?_) (fun hc => ?_)
    · have h := h.1 hc
      refine lv_iconst (v := (-1)) hx hb dX8_end_19 (by decide) ?_
      exact W.iret (v := (-1 : Int32)) hx hb hr (fun zt ht hW => ⟨⟨(-1 : Int32), asked, rfl, h, by rw [ht]; exact hP⟩, hS.F ht⟩) hS.2.2 dX8_end_20
    · have h := h.2 hc
      refine lv_iload_n hx hb dX8_end_14 rfl (lv_at hl 1 rfl) ?_
      refine lv_iload_n hx hb dX8_end_15 rfl (lv_at hl 2 rfl) ?_
      refine lv_icmp_ne (tgt := 21) hx hb dX8_end_16 (by decide) (fun hc => ?_) (fun hc => ?_)
      · have h := h.1 hc
        refine lv_iconst (v := (0)) hx hb dX8_end_21 (by decide) ?_
        refine lv_istore_n (lv' := [(3, .int (0 : Int32)), (0, .ref (a 0)), (1, .int p), (2, .int q)]) hx hb dX8_end_22 rfl hl (by decide) rfl (fun ls hl => ?_)
        refine lv_iconst (v := (0)) hx hb dX8_end_23 (by decide) ?_
        refine lv_istore (lv' := [(4, .int (0 : Int32)), (3, .int (0 : Int32)), (0, .ref (a 0)), (1, .int p), (2, .int q)]) hx hb dX8_end_24 hl (by decide) rfl (fun ls hl => ?_)
        obtain ⟨zn, h⟩ := h
        exact w_26  zn asked (0 : Int32) (0 : Int32) h _ _ hP hD hS ls (lv_sub hl [2, 3, 4, 1, 0] rfl)
      · have h := h.2 hc
        refine lv_iconst (v := (-1)) hx hb dX8_end_19 (by decide) ?_
        exact W.iret (v := (-1 : Int32)) hx hb hr (fun zt ht hW => ⟨⟨(-1 : Int32), asked, rfl, h, by rw [ht]; exact hP⟩, hS.F ht⟩) hS.2.2 dX8_end_20

-- IronedQuarrelsModel.layReach(I)V
def wb_X8_layReach_117 (K109 : (Nat → Int32) → (Int32) → Prop) (K117 : (Nat → Int32) → (Int32) → (Int32) → Prop) (reach : Nat → Int32) (x2 : Int32) (x3 : Int32) : Prop :=
  ((6 : Int32) ≤ x3 → (K109 reach (x2 + 1))) ∧ (¬ (6 : Int32) ≤ x3 → (vp_in x3 6 ∧ vp_in x3 6 ∧ wp_X8_has (reach x3.toNatClampNeg) x2 (fun r1 => (r1 = 0 → (vp_in x3 6 ∧ K117 (upd reach (x3.toNatClampNeg) ((reach x3.toNatClampNeg) ||| (0 : Int32))) x2 (x3 + 1))) ∧ (¬ r1 = 0 → (vp_in x2 6 ∧ vp_in x3 6 ∧ K117 (upd reach (x3.toNatClampNeg) ((reach x3.toNatClampNeg) ||| (reach x2.toNatClampNeg))) x2 (x3 + 1))))))
def wl_X8_layReach_117 (K109 : (Nat → Int32) → (Int32) → Prop) : Nat → (Nat → Int32) → (Int32) → (Int32) → Prop
  | 0 => fun _ _ _ => False
  | zn + 1 => wb_X8_layReach_117 K109 (wl_X8_layReach_117 K109 zn)
def wb_X8_layReach_109 (post : (Nat → Int32) → Prop) (K109 : (Nat → Int32) → (Int32) → Prop) (reach : Nat → Int32) (x2 : Int32) : Prop :=
  ((6 : Int32) ≤ x2 → (post reach)) ∧ (¬ (6 : Int32) ≤ x2 → (∃ zn, wl_X8_layReach_117 K109 zn reach x2 (0 : Int32)))
def wl_X8_layReach_109 (post : (Nat → Int32) → Prop) : Nat → (Nat → Int32) → (Int32) → Prop
  | 0 => fun _ _ => False
  | zn + 1 => wb_X8_layReach_109 post (wl_X8_layReach_109 post zn)
def wb_X8_layReach_23 (now : Nat → Int32) (gone : Int32) (post : (Nat → Int32) → Prop) (K23 : (Nat → Int32) → (Int32) → Prop) (reach : Nat → Int32) (x2 : Int32) : Prop :=
  ((now 0) ≤ x2 → (∃ zn, wl_X8_layReach_109 post zn reach (0 : Int32))) ∧ (¬ (now 0) ≤ x2 → (vp_in ((15 : Int32) + x2) 115 ∧ vp_in ((27 : Int32) + x2) 115 ∧ vp_in (now ((15 : Int32) + x2).toNatClampNeg) 6 ∧ wp_X8_has (now 2) x2 (fun r2 => (r2 = 0 → (vp_in (now ((15 : Int32) + x2).toNatClampNeg) 6 ∧ K23 (upd reach ((now ((15 : Int32) + x2).toNatClampNeg).toNatClampNeg) ((reach (now ((15 : Int32) + x2).toNatClampNeg).toNatClampNeg) ||| (0 : Int32))) (x2 + 1))) ∧ (¬ r2 = 0 → (wp_X8_has gone (now ((15 : Int32) + x2).toNatClampNeg) (fun r3 => (¬ r3 = 0 → (vp_in (now ((15 : Int32) + x2).toNatClampNeg) 6 ∧ K23 (upd reach ((now ((15 : Int32) + x2).toNatClampNeg).toNatClampNeg) ((reach (now ((15 : Int32) + x2).toNatClampNeg).toNatClampNeg) ||| (0 : Int32))) (x2 + 1))) ∧ (r3 = 0 → (wp_X8_has gone (now ((27 : Int32) + x2).toNatClampNeg) (fun r4 => (¬ r4 = 0 → (vp_in (now ((15 : Int32) + x2).toNatClampNeg) 6 ∧ K23 (upd reach ((now ((15 : Int32) + x2).toNatClampNeg).toNatClampNeg) ((reach (now ((15 : Int32) + x2).toNatClampNeg).toNatClampNeg) ||| (0 : Int32))) (x2 + 1))) ∧ (r4 = 0 → (vp_in (now ((15 : Int32) + x2).toNatClampNeg) 6 ∧ K23 (upd reach ((now ((15 : Int32) + x2).toNatClampNeg).toNatClampNeg) ((reach (now ((15 : Int32) + x2).toNatClampNeg).toNatClampNeg) ||| ((1 : Int32) <<< ((now ((27 : Int32) + x2).toNatClampNeg) &&& 31)))) (x2 + 1))))))))))))
def wl_X8_layReach_23 (now : Nat → Int32) (gone : Int32) (post : (Nat → Int32) → Prop) : Nat → (Nat → Int32) → (Int32) → Prop
  | 0 => fun _ _ => False
  | zn + 1 => wb_X8_layReach_23 now gone post (wl_X8_layReach_23 now gone post zn)
def wb_X8_layReach_2 (now : Nat → Int32) (gone : Int32) (post : (Nat → Int32) → Prop) (K2 : (Nat → Int32) → (Int32) → Prop) (reach : Nat → Int32) (x2 : Int32) : Prop :=
  ((6 : Int32) ≤ x2 → (∃ zn, wl_X8_layReach_23 now gone post zn reach (0 : Int32))) ∧ (¬ (6 : Int32) ≤ x2 → (vp_in x2 6 ∧ K2 (upd reach (x2.toNatClampNeg) (0 : Int32)) (x2 + 1)))
def wl_X8_layReach_2 (now : Nat → Int32) (gone : Int32) (post : (Nat → Int32) → Prop) : Nat → (Nat → Int32) → (Int32) → Prop
  | 0 => fun _ _ => False
  | zn + 1 => wb_X8_layReach_2 now gone post (wl_X8_layReach_2 now gone post zn)
def wp_X8_layReach (now : Nat → Int32) (reach : Nat → Int32) (gone : Int32) (post : (Nat → Int32) → Prop) : Prop :=
  ∃ zn, wl_X8_layReach_2 now gone post zn reach (0 : Int32)
def rm_X8_layReach : Room := { frames := 1, cells := 0, slots := 0, locals := 21 }
theorem k_X8_layReach_1 : Cond.fieldLink RX8 49 "IronedQuarrelsModel" "reach" "[I" ∈ wsX8_layReach := List.mem_of_getElem? (i := 1) (by decide +kernel)
theorem k_X8_layReach_2 : Cond.fieldLink RX8 22 "IronedQuarrelsModel" "now" "[I" ∈ wsX8_layReach := List.mem_of_getElem? (i := 2) (by decide +kernel)
theorem hi_X8_layReach_X8 : ∀ w ∈ wsX80, w ∈ wsX8_layReach := fun w h => List.mem_cons_of_mem _ (List.mem_append_right _ h)
set_option maxHeartbeats 4000000 in
set_option maxRecDepth 100000 in
theorem c_X8_layReach (l : Launch) (D : va_G) (ca : Nat → ClassId) (a : Nat → Nat) (rowSizes : Nat → Int32) (rows : Nat → Int32) (textSizes : Nat → Int32) (texts : Nat → Int32) (now : Nat → Int32) (keeps : Nat → Int32) (kept : Nat → Int32) (asked : Int32) (upper : Int64) (lower : Int64) (finding : Int32) (findings : Nat → Int32) (read : Nat → Int32) (at_ : Int32) (costs : Nat → Int32) (ways : Nat → Int64) (reach : Nat → Int32) (gone : Int32) (post : (Nat → Int32) → Prop) (hd : va_D (fun _ => True) (W_X8 ca a rowSizes rows textSizes texts now keeps kept asked upper lower finding findings read at_ costs ways reach)) (h : wp_X8_layReach now reach gone post) : Met l yX8_layReach wsX8_layReach rm_X8_layReach (PcX D ca [.ref (a 0), .int gone] (W_X8 ca a rowSizes rows textSizes texts now keeps kept asked upper lower finding findings read at_ costs ways reach)) (wrV (S := (Nat → Int32)) D (W_X8 ca a rowSizes rows textSizes texts now keeps kept asked upper lower finding findings read at_ costs ways reach) (fun zu => W_X8 ca a rowSizes rows textSizes texts now keeps kept asked upper lower finding findings read at_ costs ways zu) (fun zu => post zu)) 0 0 (adr (W_X8 ca a rowSizes rows textSizes texts now keeps kept asked upper lower finding findings read at_ costs ways reach)) := by
  refine Met.ofW (cc := cX8_layReach) (maxL := 5) (ret := none) (by decide) rfl ?_
  intro zp ze zs zm za zb zt zc z1 B hml hv
  obtain ⟨rfl, hP, hK⟩ := hv
  have hx := B.exec
  have hb := B.bytes
  have hr := B.returns
  have hts := atoms_spec (ws := wsX8_layReach) B.pre
  have hown : zs.vm.findClass RX8 = some zm.cls := findClass_of_methodNamed B.named
  have hlocks := B.notSynchronized
  have hD : va_D (adr (W_X8 ca a rowSizes rows textSizes texts now keeps kept asked upper lower finding findings read at_ costs ways reach)) (W_X8 ca a rowSizes rows textSizes texts now keeps kept asked upper lower finding findings read at_ costs ways reach) := hd.adr
  have hS : va_S (adr (W_X8 ca a rowSizes rows textSizes texts now keeps kept asked upper lower finding findings read at_ costs ways reach)) zs.heap zs.heap [] := va_S.rf
  have hl := lv_entry ([.ref (a 0), .int gone]) (n := 5) (Nat.le_of_ble_eq_true rfl)
  rw [lg_entry_eq]
  generalize (lg_sl ([.ref (a 0), .int gone]) ++ List.replicate (5 - (lg_sl ([.ref (a 0), .int gone])).length) Slot.unset).toArray = ls at hl ⊢
  replace hl : lv_has ls 5 [(0, .ref (a 0)), (1, .int gone)] := hl
  show W zp l ze rm_X8_layReach zs zm ([.ref (a 0), .int gone] : List Value).toArray zb zt zc zs.heap [] 0 0 (MQ zb (wrV (S := (Nat → Int32)) D (W_X8 ca a rowSizes rows textSizes texts now keeps kept asked upper lower finding findings read at_ costs ways reach) (fun zu => W_X8 ca a rowSizes rows textSizes texts now keeps kept asked upper lower finding findings read at_ costs ways zu) (fun zu => post zu)) ([.ref (a 0), .int gone] : List Value).toArray zs 0 0 (adr (W_X8 ca a rowSizes rows textSizes texts now keeps kept asked upper lower finding findings read at_ costs ways reach))) (F0 zm 0 ls [])
  have w_117 : ∀ (K109 : (Nat → Int32) → (Int32) → Prop) (ih109 : ∀ (reach : Nat → Int32) (x2 : Int32), K109 reach x2 → ∀ (H : Heap) (locs : List Loc), va_P D vwCl (W_X8 ca a rowSizes rows textSizes texts now keeps kept asked upper lower finding findings read at_ costs ways reach) H → va_D (adr (W_X8 ca a rowSizes rows textSizes texts now keeps kept asked upper lower finding findings read at_ costs ways reach)) (W_X8 ca a rowSizes rows textSizes texts now keeps kept asked upper lower finding findings read at_ costs ways reach) → va_S (adr (W_X8 ca a rowSizes rows textSizes texts now keeps kept asked upper lower finding findings read at_ costs ways reach)) zs.heap H locs → ∀ ls : Array Slot, lv_has ls 5 [(0, .ref (a 0)), (2, .int x2)] → W zp l ze rm_X8_layReach zs zm ([.ref (a 0), .int gone] : List Value).toArray zb zt zc H locs 0 0 (MQ zb (wrV (S := (Nat → Int32)) D (W_X8 ca a rowSizes rows textSizes texts now keeps kept asked upper lower finding findings read at_ costs ways reach) (fun zu => W_X8 ca a rowSizes rows textSizes texts now keeps kept asked upper lower finding findings read at_ costs ways zu) (fun zu => post zu)) ([.ref (a 0), .int gone] : List Value).toArray zs 0 0 (adr (W_X8 ca a rowSizes rows textSizes texts now keeps kept asked upper lower finding findings read at_ costs ways reach))) (F0 zm 109 ls [])) (zn : Nat) (reach : Nat → Int32) (x2 : Int32) (x3 : Int32), wl_X8_layReach_117 K109 zn reach x2 x3 → ∀ (H : Heap) (locs : List Loc), va_P D vwCl (W_X8 ca a rowSizes rows textSizes texts now keeps kept asked upper lower finding findings read at_ costs ways reach) H → va_D (adr (W_X8 ca a rowSizes rows textSizes texts now keeps kept asked upper lower finding findings read at_ costs ways reach)) (W_X8 ca a rowSizes rows textSizes texts now keeps kept asked upper lower finding findings read at_ costs ways reach) → va_S (adr (W_X8 ca a rowSizes rows textSizes texts now keeps kept asked upper lower finding findings read at_ costs ways reach)) zs.heap H locs → ∀ ls : Array Slot, lv_has ls 5 [(0, .ref (a 0)), (2, .int x2), (3, .int x3)] → W zp l ze rm_X8_layReach zs zm ([.ref (a 0), .int gone] : List Value).toArray zb zt zc H locs 0 0 (MQ zb (wrV (S := (Nat → Int32)) D (W_X8 ca a rowSizes rows textSizes texts now keeps kept asked upper lower finding findings read at_ costs ways reach) (fun zu => W_X8 ca a rowSizes rows textSizes texts now keeps kept asked upper lower finding findings read at_ costs ways zu) (fun zu => post zu)) ([.ref (a 0), .int gone] : List Value).toArray zs 0 0 (adr (W_X8 ca a rowSizes rows textSizes texts now keeps kept asked upper lower finding findings read at_ costs ways reach))) (F0 zm 117 ls []) := by
    intro K109 ih109 zn
    induction zn with
    | zero => intro reach x2 x3 h; exact h.elim
    | succ zn ih117 =>
      intro reach x2 x3 h H locs hP hD hS ls hl
      replace h : wb_X8_layReach_117 K109 (wl_X8_layReach_117 K109 zn) reach x2 x3 := h
      unfold wb_X8_layReach_117 at h
      refine lv_iload_n hx hb dX8_layReach_117 rfl (lv_at hl 2 rfl) ?_
      refine lv_bipush (v := (6)) hx hb dX8_layReach_118 (by decide) ?_
      refine lv_icmp_ge (tgt := 161) hx hb dX8_layReach_120 (by decide) (fun hc => ?_) (fun hc => ?_)
      · have h := h.1 hc
        refine lv_iinc (v := x2 + 1) (lv' := [(2, .int (x2 + 1)), (0, .ref (a 0)), (3, .int x3)]) hx hb dX8_layReach_161 hl (k := 1) rfl rfl (by decide) rfl (fun ls hl => ?_)
        refine lv_goto (tgt := 109) hx hb dX8_layReach_164 (by decide) ?_
        exact ih109 reach (x2 + 1) h _ _ hP hD hS ls (lv_sub hl [1, 0] rfl)
      · have h := h.2 hc
        refine lv_aload_n hx hb dX8_layReach_123 rfl (lv_at hl 0 rfl) ?_
        refine va_get (D := D) (ci := 7) (v := .ref (a 12)) (C := RX8) (T := TX8) (N := 17) hx hb hts hi_X8_layReach_X8 hown hK.1 hP 0 rfl rfl 16 (by decide) (hts _ k_X8_layReach_1) (fun _ h9 => h9) rfl dX8_layReach_124 ?_
        refine lv_iload_n hx hb dX8_layReach_127 rfl (lv_at hl 2 rfl) ?_
        refine lv_dup2_11 hx hb dX8_layReach_128 rfl rfl ?_
        obtain ⟨hi, h⟩ := h
        refine x_iald (v := reach x3.toNatClampNeg) hx hb hK hP 12 rfl hi rfl dX8_layReach_129 ?_
        refine lv_aload_n hx hb dX8_layReach_130 rfl (lv_at hl 0 rfl) ?_
        refine va_get (D := D) (ci := 7) (v := .ref (a 12)) (C := RX8) (T := TX8) (N := 17) hx hb hts hi_X8_layReach_X8 hown hK.1 hP 0 rfl rfl 16 (by decide) (hts _ k_X8_layReach_1) (fun _ h9 => h9) rfl dX8_layReach_131 ?_
        refine lv_iload_n hx hb dX8_layReach_134 rfl (lv_at hl 2 rfl) ?_
        obtain ⟨hi, h⟩ := h
        refine x_iald (v := reach x3.toNatClampNeg) hx hb hK hP 12 rfl hi rfl dX8_layReach_135 ?_
        refine lv_iload_n hx hb dX8_layReach_136 rfl (lv_at hl 1 rfl) ?_
        refine rd_callz (va_runS (As := [.int (reach x3.toNatClampNeg), .int x2]) (rest := [.int (reach x3.toNatClampNeg), .int x3, .ref (a 12)]) ⟨hx, hb, hml, hown, hts⟩ (c_X8_has l D ca   (reach x3.toNatClampNeg) x2 _ h) (va_cwS 2 hts gX8_layReach_X8_has rfl rfl rfl (by decide +kernel) ⟨Nat.le_of_ble_eq_true rfl, Nat.le_of_ble_eq_true rfl⟩) (PcX.preS hK (fun zk zq zh => by simp at zh)) rfl rfl hl.1 rfl (lv_room (Nat.le_of_ble_eq_true rfl)) dX8_layReach_137 ⟨Nat.le_of_ble_eq_true rfl, Nat.le_of_ble_eq_true rfl⟩) (fun r1 h hz_r1 => ?_)
        try dsimp only at h
        refine lv_if_eq (tgt := 152) hx hb dX8_layReach_140 (by decide) (fun hc => ?_) (fun hc => ?_)
        · have h := h.1 hc
          refine lv_iconst (v := (0)) hx hb dX8_layReach_152 (by decide) ?_
          refine lv_ior hx hb dX8_layReach_153 ?_
          obtain ⟨hi, h⟩ := h
          refine x_iast (ws' := W_X8 ca a rowSizes rows textSizes texts now keeps kept asked upper lower finding findings read at_ costs ways (upd reach (x3.toNatClampNeg) ((reach x3.toNatClampNeg) ||| (0 : Int32)))) hx hb hK hP hD hS 12 rfl hi (k := (x3.toNatClampNeg)) rfl rfl dX8_layReach_154 (fun H locs hP hD hS => ?_)
          refine lv_iinc (v := x3 + 1) (lv' := [(3, .int (x3 + 1)), (0, .ref (a 0)), (2, .int x2)]) hx hb dX8_layReach_155 hl (k := 2) rfl rfl (by decide) rfl (fun ls hl => ?_)
          refine lv_goto (tgt := 117) hx hb dX8_layReach_158 (by decide) ?_
          exact ih117 (upd reach (x3.toNatClampNeg) ((reach x3.toNatClampNeg) ||| (0 : Int32))) x2 (x3 + 1) h _ _ hP hD hS ls (lv_sub hl [1, 2, 0] rfl)
        · have h := h.2 hc
          refine lv_aload_n hx hb dX8_layReach_143 rfl (lv_at hl 0 rfl) ?_
          refine va_get (D := D) (ci := 7) (v := .ref (a 12)) (C := RX8) (T := TX8) (N := 17) hx hb hts hi_X8_layReach_X8 hown hK.1 hP 0 rfl rfl 16 (by decide) (hts _ k_X8_layReach_1) (fun _ h9 => h9) rfl dX8_layReach_144 ?_
          refine lv_iload_n hx hb dX8_layReach_147 rfl (lv_at hl 1 rfl) ?_
          obtain ⟨hi, h⟩ := h
          refine x_iald (v := reach x2.toNatClampNeg) hx hb hK hP 12 rfl hi rfl dX8_layReach_148 ?_
          refine lv_goto (tgt := 153) hx hb dX8_layReach_149 (by decide) ?_
          refine lv_ior hx hb dX8_layReach_153 ?_
          obtain ⟨hi, h⟩ := h
          refine x_iast (ws' := W_X8 ca a rowSizes rows textSizes texts now keeps kept asked upper lower finding findings read at_ costs ways (upd reach (x3.toNatClampNeg) ((reach x3.toNatClampNeg) ||| (reach x2.toNatClampNeg)))) hx hb hK hP hD hS 12 rfl hi (k := (x3.toNatClampNeg)) rfl rfl dX8_layReach_154 (fun H locs hP hD hS => ?_)
          refine lv_iinc (v := x3 + 1) (lv' := [(3, .int (x3 + 1)), (0, .ref (a 0)), (2, .int x2)]) hx hb dX8_layReach_155 hl (k := 2) rfl rfl (by decide) rfl (fun ls hl => ?_)
          refine lv_goto (tgt := 117) hx hb dX8_layReach_158 (by decide) ?_
          exact ih117 (upd reach (x3.toNatClampNeg) ((reach x3.toNatClampNeg) ||| (reach x2.toNatClampNeg))) x2 (x3 + 1) h _ _ hP hD hS ls (lv_sub hl [1, 2, 0] rfl)
  have w_109 : ∀ (zn : Nat) (reach : Nat → Int32) (x2 : Int32), wl_X8_layReach_109 post zn reach x2 → ∀ (H : Heap) (locs : List Loc), va_P D vwCl (W_X8 ca a rowSizes rows textSizes texts now keeps kept asked upper lower finding findings read at_ costs ways reach) H → va_D (adr (W_X8 ca a rowSizes rows textSizes texts now keeps kept asked upper lower finding findings read at_ costs ways reach)) (W_X8 ca a rowSizes rows textSizes texts now keeps kept asked upper lower finding findings read at_ costs ways reach) → va_S (adr (W_X8 ca a rowSizes rows textSizes texts now keeps kept asked upper lower finding findings read at_ costs ways reach)) zs.heap H locs → ∀ ls : Array Slot, lv_has ls 5 [(0, .ref (a 0)), (2, .int x2)] → W zp l ze rm_X8_layReach zs zm ([.ref (a 0), .int gone] : List Value).toArray zb zt zc H locs 0 0 (MQ zb (wrV (S := (Nat → Int32)) D (W_X8 ca a rowSizes rows textSizes texts now keeps kept asked upper lower finding findings read at_ costs ways reach) (fun zu => W_X8 ca a rowSizes rows textSizes texts now keeps kept asked upper lower finding findings read at_ costs ways zu) (fun zu => post zu)) ([.ref (a 0), .int gone] : List Value).toArray zs 0 0 (adr (W_X8 ca a rowSizes rows textSizes texts now keeps kept asked upper lower finding findings read at_ costs ways reach))) (F0 zm 109 ls []) := by
    intro zn
    induction zn with
    | zero => intro reach x2 h; exact h.elim
    | succ zn ih109 =>
      intro reach x2 h H locs hP hD hS ls hl
      replace h : wb_X8_layReach_109 post (wl_X8_layReach_109 post zn) reach x2 := h
      unfold wb_X8_layReach_109 at h
      refine lv_iload_n hx hb dX8_layReach_109 rfl (lv_at hl 1 rfl) ?_
      refine lv_bipush (v := (6)) hx hb dX8_layReach_110 (by decide) ?_
      refine lv_icmp_ge (tgt := 167) hx hb dX8_layReach_112 (by decide) (fun hc => ?_) (fun hc => ?_)
      · have h := h.1 hc
        exact W.vret hx hb hr (fun zt ht hW => ⟨⟨reach, rfl, h, by rw [ht]; exact hP⟩, hS.F ht⟩) hS.2.2 dX8_layReach_167
      · have h := h.2 hc
        refine lv_iconst (v := (0)) hx hb dX8_layReach_115 (by decide) ?_
        refine lv_istore_n (lv' := [(3, .int (0 : Int32)), (0, .ref (a 0)), (2, .int x2)]) hx hb dX8_layReach_116 rfl hl (by decide) rfl (fun ls hl => ?_)
        obtain ⟨zn, h⟩ := h
        exact w_117 _ ih109 zn reach x2 (0 : Int32) h _ _ hP hD hS ls (lv_sub hl [1, 2, 0] rfl)
  have w_23 : ∀ (zn : Nat) (reach : Nat → Int32) (x2 : Int32), wl_X8_layReach_23 now gone post zn reach x2 → ∀ (H : Heap) (locs : List Loc), va_P D vwCl (W_X8 ca a rowSizes rows textSizes texts now keeps kept asked upper lower finding findings read at_ costs ways reach) H → va_D (adr (W_X8 ca a rowSizes rows textSizes texts now keeps kept asked upper lower finding findings read at_ costs ways reach)) (W_X8 ca a rowSizes rows textSizes texts now keeps kept asked upper lower finding findings read at_ costs ways reach) → va_S (adr (W_X8 ca a rowSizes rows textSizes texts now keeps kept asked upper lower finding findings read at_ costs ways reach)) zs.heap H locs → ∀ ls : Array Slot, lv_has ls 5 [(0, .ref (a 0)), (1, .int gone), (2, .int x2)] → W zp l ze rm_X8_layReach zs zm ([.ref (a 0), .int gone] : List Value).toArray zb zt zc H locs 0 0 (MQ zb (wrV (S := (Nat → Int32)) D (W_X8 ca a rowSizes rows textSizes texts now keeps kept asked upper lower finding findings read at_ costs ways reach) (fun zu => W_X8 ca a rowSizes rows textSizes texts now keeps kept asked upper lower finding findings read at_ costs ways zu) (fun zu => post zu)) ([.ref (a 0), .int gone] : List Value).toArray zs 0 0 (adr (W_X8 ca a rowSizes rows textSizes texts now keeps kept asked upper lower finding findings read at_ costs ways reach))) (F0 zm 23 ls []) := by
    intro zn
    induction zn with
    | zero => intro reach x2 h; exact h.elim
    | succ zn ih23 =>
      intro reach x2 h H locs hP hD hS ls hl
      replace h : wb_X8_layReach_23 now gone post (wl_X8_layReach_23 now gone post zn) reach x2 := h
      unfold wb_X8_layReach_23 at h
      refine lv_iload_n hx hb dX8_layReach_23 rfl (lv_at hl 2 rfl) ?_
      refine lv_aload_n hx hb dX8_layReach_24 rfl (lv_at hl 0 rfl) ?_
      refine va_get (D := D) (ci := 7) (v := .ref (a 5)) (C := RX8) (T := TX8) (N := 17) hx hb hts hi_X8_layReach_X8 hown hK.1 hP 0 rfl rfl 4 (by decide) (hts _ k_X8_layReach_2) (fun _ h9 => h9) rfl dX8_layReach_25 ?_
      refine lv_iconst (v := (0)) hx hb dX8_layReach_28 (by decide) ?_
      refine x_iald (v := now 0) hx hb hK hP 5 rfl (vin_lit (by decide)) rfl dX8_layReach_29 ?_
      refine lv_icmp_ge (tgt := 107) hx hb dX8_layReach_30 (by decide) (fun hc => ?_) (fun hc => ?_)
      · have h := h.1 hc
        refine lv_iconst (v := (0)) hx hb dX8_layReach_107 (by decide) ?_
        refine lv_istore_n (lv' := [(2, .int (0 : Int32)), (0, .ref (a 0)), (1, .int gone)]) hx hb dX8_layReach_108 rfl hl (by decide) rfl (fun ls hl => ?_)
        obtain ⟨zn, h⟩ := h
        exact w_109  zn reach (0 : Int32) h _ _ hP hD hS ls (lv_sub hl [1, 0] rfl)
      · have h := h.2 hc
        refine lv_aload_n hx hb dX8_layReach_33 rfl (lv_at hl 0 rfl) ?_
        refine va_get (D := D) (ci := 7) (v := .ref (a 5)) (C := RX8) (T := TX8) (N := 17) hx hb hts hi_X8_layReach_X8 hown hK.1 hP 0 rfl rfl 4 (by decide) (hts _ k_X8_layReach_2) (fun _ h9 => h9) rfl dX8_layReach_34 ?_
        refine lv_bipush (v := (15)) hx hb dX8_layReach_37 (by decide) ?_
        refine lv_iload_n hx hb dX8_layReach_39 rfl (lv_at hl 2 rfl) ?_
        refine lv_iadd hx hb dX8_layReach_40 ?_
        obtain ⟨hi, h⟩ := h
        refine x_iald (v := now ((15 : Int32) + x2).toNatClampNeg) hx hb hK hP 5 rfl hi rfl dX8_layReach_41 ?_
        refine lv_istore_n (lv' := [(3, .int (now ((15 : Int32) + x2).toNatClampNeg)), (0, .ref (a 0)), (1, .int gone), (2, .int x2)]) hx hb dX8_layReach_42 rfl hl (by decide) rfl (fun ls hl => ?_)
        refine lv_aload_n hx hb dX8_layReach_43 rfl (lv_at hl 1 rfl) ?_
        refine va_get (D := D) (ci := 7) (v := .ref (a 5)) (C := RX8) (T := TX8) (N := 17) hx hb hts hi_X8_layReach_X8 hown hK.1 hP 0 rfl rfl 4 (by decide) (hts _ k_X8_layReach_2) (fun _ h9 => h9) rfl dX8_layReach_44 ?_
        refine lv_bipush (v := (27)) hx hb dX8_layReach_47 (by decide) ?_
        refine lv_iload_n hx hb dX8_layReach_49 rfl (lv_at hl 3 rfl) ?_
        refine lv_iadd hx hb dX8_layReach_50 ?_
        obtain ⟨hi, h⟩ := h
        refine x_iald (v := now ((27 : Int32) + x2).toNatClampNeg) hx hb hK hP 5 rfl hi rfl dX8_layReach_51 ?_
        refine lv_istore (lv' := [(4, .int (now ((27 : Int32) + x2).toNatClampNeg)), (3, .int (now ((15 : Int32) + x2).toNatClampNeg)), (0, .ref (a 0)), (1, .int gone), (2, .int x2)]) hx hb dX8_layReach_52 hl (by decide) rfl (fun ls hl => ?_)
        refine lv_aload_n hx hb dX8_layReach_54 rfl (lv_at hl 2 rfl) ?_
        refine va_get (D := D) (ci := 7) (v := .ref (a 12)) (C := RX8) (T := TX8) (N := 17) hx hb hts hi_X8_layReach_X8 hown hK.1 hP 0 rfl rfl 16 (by decide) (hts _ k_X8_layReach_1) (fun _ h9 => h9) rfl dX8_layReach_55 ?_
        refine lv_iload_n hx hb dX8_layReach_58 rfl (lv_at hl 1 rfl) ?_
        refine lv_dup2_11 hx hb dX8_layReach_59 rfl rfl ?_
        obtain ⟨hi, h⟩ := h
        refine x_iald (v := reach (now ((15 : Int32) + x2).toNatClampNeg).toNatClampNeg) hx hb hK hP 12 rfl hi rfl dX8_layReach_60 ?_
        refine lv_aload_n hx hb dX8_layReach_61 rfl (lv_at hl 2 rfl) ?_
        refine va_get (D := D) (ci := 7) (v := .ref (a 5)) (C := RX8) (T := TX8) (N := 17) hx hb hts hi_X8_layReach_X8 hown hK.1 hP 0 rfl rfl 4 (by decide) (hts _ k_X8_layReach_2) (fun _ h9 => h9) rfl dX8_layReach_62 ?_
        refine lv_iconst (v := (2)) hx hb dX8_layReach_65 (by decide) ?_
        refine x_iald (v := now 2) hx hb hK hP 5 rfl (vin_lit (by decide)) rfl dX8_layReach_66 ?_
        refine lv_iload_n hx hb dX8_layReach_67 rfl (lv_at hl 4 rfl) ?_
        refine rd_callz (va_runS (As := [.int (now 2), .int x2]) (rest := [.int (reach (now ((15 : Int32) + x2).toNatClampNeg).toNatClampNeg), .int (now ((15 : Int32) + x2).toNatClampNeg), .ref (a 12)]) ⟨hx, hb, hml, hown, hts⟩ (c_X8_has l D ca   (now 2) x2 _ h) (va_cwS 2 hts gX8_layReach_X8_has rfl rfl rfl (by decide +kernel) ⟨Nat.le_of_ble_eq_true rfl, Nat.le_of_ble_eq_true rfl⟩) (PcX.preS hK (fun zk zq zh => by simp at zh)) rfl rfl hl.1 rfl (lv_room (Nat.le_of_ble_eq_true rfl)) dX8_layReach_68 ⟨Nat.le_of_ble_eq_true rfl, Nat.le_of_ble_eq_true rfl⟩) (fun r2 h hz_r2 => ?_)
        try dsimp only at h
        refine lv_if_eq (tgt := 98) hx hb dX8_layReach_71 (by decide) (fun hc => ?_) (fun hc => ?_)
        · have h := h.1 hc
          refine lv_iconst (v := (0)) hx hb dX8_layReach_98 (by decide) ?_
          refine lv_ior hx hb dX8_layReach_99 ?_
          obtain ⟨hi, h⟩ := h
          refine x_iast (ws' := W_X8 ca a rowSizes rows textSizes texts now keeps kept asked upper lower finding findings read at_ costs ways (upd reach ((now ((15 : Int32) + x2).toNatClampNeg).toNatClampNeg) ((reach (now ((15 : Int32) + x2).toNatClampNeg).toNatClampNeg) ||| (0 : Int32)))) hx hb hK hP hD hS 12 rfl hi (k := ((now ((15 : Int32) + x2).toNatClampNeg).toNatClampNeg)) rfl rfl dX8_layReach_100 (fun H locs hP hD hS => ?_)
          refine lv_iinc (v := x2 + 1) (lv' := [(2, .int (x2 + 1)), (4, .int (now ((27 : Int32) + x2).toNatClampNeg)), (3, .int (now ((15 : Int32) + x2).toNatClampNeg)), (0, .ref (a 0)), (1, .int gone)]) hx hb dX8_layReach_101 hl (k := 4) rfl rfl (by decide) rfl (fun ls hl => ?_)
          refine lv_goto (tgt := 23) hx hb dX8_layReach_104 (by decide) ?_
          exact ih23 (upd reach ((now ((15 : Int32) + x2).toNatClampNeg).toNatClampNeg) ((reach (now ((15 : Int32) + x2).toNatClampNeg).toNatClampNeg) ||| (0 : Int32))) (x2 + 1) h _ _ hP hD hS ls (lv_sub hl [3, 4, 0] rfl)
        · have h := h.2 hc
          refine lv_iload_n hx hb dX8_layReach_74 rfl (lv_at hl 3 rfl) ?_
          refine lv_iload_n hx hb dX8_layReach_75 rfl (lv_at hl 1 rfl) ?_
          refine rd_callz (va_runS (As := [.int gone, .int (now ((15 : Int32) + x2).toNatClampNeg)]) (rest := [.int (reach (now ((15 : Int32) + x2).toNatClampNeg).toNatClampNeg), .int (now ((15 : Int32) + x2).toNatClampNeg), .ref (a 12)]) ⟨hx, hb, hml, hown, hts⟩ (c_X8_has l D ca   gone (now ((15 : Int32) + x2).toNatClampNeg) _ h) (va_cwS 2 hts gX8_layReach_X8_has rfl rfl rfl (by decide +kernel) ⟨Nat.le_of_ble_eq_true rfl, Nat.le_of_ble_eq_true rfl⟩) (PcX.preS hK (fun zk zq zh => by simp at zh)) rfl rfl hl.1 rfl (lv_room (Nat.le_of_ble_eq_true rfl)) dX8_layReach_76 ⟨Nat.le_of_ble_eq_true rfl, Nat.le_of_ble_eq_true rfl⟩) (fun r3 h hz_r3 => ?_)
          try dsimp only at h
          refine lv_if_ne (tgt := 98) hx hb dX8_layReach_79 (by decide) (fun hc => ?_) (fun hc => ?_)
          · have h := h.1 hc
            refine lv_iconst (v := (0)) hx hb dX8_layReach_98 (by decide) ?_
            refine lv_ior hx hb dX8_layReach_99 ?_
            obtain ⟨hi, h⟩ := h
            refine x_iast (ws' := W_X8 ca a rowSizes rows textSizes texts now keeps kept asked upper lower finding findings read at_ costs ways (upd reach ((now ((15 : Int32) + x2).toNatClampNeg).toNatClampNeg) ((reach (now ((15 : Int32) + x2).toNatClampNeg).toNatClampNeg) ||| (0 : Int32)))) hx hb hK hP hD hS 12 rfl hi (k := ((now ((15 : Int32) + x2).toNatClampNeg).toNatClampNeg)) rfl rfl dX8_layReach_100 (fun H locs hP hD hS => ?_)
            refine lv_iinc (v := x2 + 1) (lv' := [(2, .int (x2 + 1)), (4, .int (now ((27 : Int32) + x2).toNatClampNeg)), (3, .int (now ((15 : Int32) + x2).toNatClampNeg)), (0, .ref (a 0)), (1, .int gone)]) hx hb dX8_layReach_101 hl (k := 4) rfl rfl (by decide) rfl (fun ls hl => ?_)
            refine lv_goto (tgt := 23) hx hb dX8_layReach_104 (by decide) ?_
            exact ih23 (upd reach ((now ((15 : Int32) + x2).toNatClampNeg).toNatClampNeg) ((reach (now ((15 : Int32) + x2).toNatClampNeg).toNatClampNeg) ||| (0 : Int32))) (x2 + 1) h _ _ hP hD hS ls (lv_sub hl [3, 4, 0] rfl)
          · have h := h.2 hc
            refine lv_iload_n hx hb dX8_layReach_82 rfl (lv_at hl 3 rfl) ?_
            refine lv_iload hx hb dX8_layReach_83 (lv_at hl 0 rfl) ?_
            refine rd_callz (va_runS (As := [.int gone, .int (now ((27 : Int32) + x2).toNatClampNeg)]) (rest := [.int (reach (now ((15 : Int32) + x2).toNatClampNeg).toNatClampNeg), .int (now ((15 : Int32) + x2).toNatClampNeg), .ref (a 12)]) ⟨hx, hb, hml, hown, hts⟩ (c_X8_has l D ca   gone (now ((27 : Int32) + x2).toNatClampNeg) _ h) (va_cwS 2 hts gX8_layReach_X8_has rfl rfl rfl (by decide +kernel) ⟨Nat.le_of_ble_eq_true rfl, Nat.le_of_ble_eq_true rfl⟩) (PcX.preS hK (fun zk zq zh => by simp at zh)) rfl rfl hl.1 rfl (lv_room (Nat.le_of_ble_eq_true rfl)) dX8_layReach_85 ⟨Nat.le_of_ble_eq_true rfl, Nat.le_of_ble_eq_true rfl⟩) (fun r4 h hz_r4 => ?_)
            try dsimp only at h
            refine lv_if_ne (tgt := 98) hx hb dX8_layReach_88 (by decide) (fun hc => ?_) (fun hc => ?_)
            · have h := h.1 hc
              refine lv_iconst (v := (0)) hx hb dX8_layReach_98 (by decide) ?_
              refine lv_ior hx hb dX8_layReach_99 ?_
              obtain ⟨hi, h⟩ := h
              refine x_iast (ws' := W_X8 ca a rowSizes rows textSizes texts now keeps kept asked upper lower finding findings read at_ costs ways (upd reach ((now ((15 : Int32) + x2).toNatClampNeg).toNatClampNeg) ((reach (now ((15 : Int32) + x2).toNatClampNeg).toNatClampNeg) ||| (0 : Int32)))) hx hb hK hP hD hS 12 rfl hi (k := ((now ((15 : Int32) + x2).toNatClampNeg).toNatClampNeg)) rfl rfl dX8_layReach_100 (fun H locs hP hD hS => ?_)
              refine lv_iinc (v := x2 + 1) (lv' := [(2, .int (x2 + 1)), (4, .int (now ((27 : Int32) + x2).toNatClampNeg)), (3, .int (now ((15 : Int32) + x2).toNatClampNeg)), (0, .ref (a 0)), (1, .int gone)]) hx hb dX8_layReach_101 hl (k := 4) rfl rfl (by decide) rfl (fun ls hl => ?_)
              refine lv_goto (tgt := 23) hx hb dX8_layReach_104 (by decide) ?_
              exact ih23 (upd reach ((now ((15 : Int32) + x2).toNatClampNeg).toNatClampNeg) ((reach (now ((15 : Int32) + x2).toNatClampNeg).toNatClampNeg) ||| (0 : Int32))) (x2 + 1) h _ _ hP hD hS ls (lv_sub hl [3, 4, 0] rfl)
            · have h := h.2 hc
              refine lv_iconst (v := (1)) hx hb dX8_layReach_91 (by decide) ?_
              refine lv_iload hx hb dX8_layReach_92 (lv_at hl 0 rfl) ?_
              refine lv_ishl hx hb dX8_layReach_94 ?_
              refine lv_goto (tgt := 99) hx hb dX8_layReach_95 (by decide) ?_
              refine lv_ior hx hb dX8_layReach_99 ?_
              obtain ⟨hi, h⟩ := h
              refine x_iast (ws' := W_X8 ca a rowSizes rows textSizes texts now keeps kept asked upper lower finding findings read at_ costs ways (upd reach ((now ((15 : Int32) + x2).toNatClampNeg).toNatClampNeg) ((reach (now ((15 : Int32) + x2).toNatClampNeg).toNatClampNeg) ||| ((1 : Int32) <<< ((now ((27 : Int32) + x2).toNatClampNeg) &&& 31))))) hx hb hK hP hD hS 12 rfl hi (k := ((now ((15 : Int32) + x2).toNatClampNeg).toNatClampNeg)) rfl rfl dX8_layReach_100 (fun H locs hP hD hS => ?_)
              refine lv_iinc (v := x2 + 1) (lv' := [(2, .int (x2 + 1)), (4, .int (now ((27 : Int32) + x2).toNatClampNeg)), (3, .int (now ((15 : Int32) + x2).toNatClampNeg)), (0, .ref (a 0)), (1, .int gone)]) hx hb dX8_layReach_101 hl (k := 4) rfl rfl (by decide) rfl (fun ls hl => ?_)
              refine lv_goto (tgt := 23) hx hb dX8_layReach_104 (by decide) ?_
              exact ih23 (upd reach ((now ((15 : Int32) + x2).toNatClampNeg).toNatClampNeg) ((reach (now ((15 : Int32) + x2).toNatClampNeg).toNatClampNeg) ||| ((1 : Int32) <<< ((now ((27 : Int32) + x2).toNatClampNeg) &&& 31)))) (x2 + 1) h _ _ hP hD hS ls (lv_sub hl [3, 4, 0] rfl)
  have w_2 : ∀ (zn : Nat) (reach : Nat → Int32) (x2 : Int32), wl_X8_layReach_2 now gone post zn reach x2 → ∀ (H : Heap) (locs : List Loc), va_P D vwCl (W_X8 ca a rowSizes rows textSizes texts now keeps kept asked upper lower finding findings read at_ costs ways reach) H → va_D (adr (W_X8 ca a rowSizes rows textSizes texts now keeps kept asked upper lower finding findings read at_ costs ways reach)) (W_X8 ca a rowSizes rows textSizes texts now keeps kept asked upper lower finding findings read at_ costs ways reach) → va_S (adr (W_X8 ca a rowSizes rows textSizes texts now keeps kept asked upper lower finding findings read at_ costs ways reach)) zs.heap H locs → ∀ ls : Array Slot, lv_has ls 5 [(0, .ref (a 0)), (1, .int gone), (2, .int x2)] → W zp l ze rm_X8_layReach zs zm ([.ref (a 0), .int gone] : List Value).toArray zb zt zc H locs 0 0 (MQ zb (wrV (S := (Nat → Int32)) D (W_X8 ca a rowSizes rows textSizes texts now keeps kept asked upper lower finding findings read at_ costs ways reach) (fun zu => W_X8 ca a rowSizes rows textSizes texts now keeps kept asked upper lower finding findings read at_ costs ways zu) (fun zu => post zu)) ([.ref (a 0), .int gone] : List Value).toArray zs 0 0 (adr (W_X8 ca a rowSizes rows textSizes texts now keeps kept asked upper lower finding findings read at_ costs ways reach))) (F0 zm 2 ls []) := by
    intro zn
    induction zn with
    | zero => intro reach x2 h; exact h.elim
    | succ zn ih2 =>
      intro reach x2 h H locs hP hD hS ls hl
      replace h : wb_X8_layReach_2 now gone post (wl_X8_layReach_2 now gone post zn) reach x2 := h
      unfold wb_X8_layReach_2 at h
      refine lv_iload_n hx hb dX8_layReach_2 rfl (lv_at hl 2 rfl) ?_
      refine lv_bipush (v := (6)) hx hb dX8_layReach_3 (by decide) ?_
      refine lv_icmp_ge (tgt := 21) hx hb dX8_layReach_5 (by decide) (fun hc => ?_) (fun hc => ?_)
      · have h := h.1 hc
        refine lv_iconst (v := (0)) hx hb dX8_layReach_21 (by decide) ?_
        refine lv_istore_n (lv' := [(2, .int (0 : Int32)), (0, .ref (a 0)), (1, .int gone)]) hx hb dX8_layReach_22 rfl hl (by decide) rfl (fun ls hl => ?_)
        obtain ⟨zn, h⟩ := h
        exact w_23  zn reach (0 : Int32) h _ _ hP hD hS ls (lv_sub hl [1, 2, 0] rfl)
      · have h := h.2 hc
        refine lv_aload_n hx hb dX8_layReach_8 rfl (lv_at hl 0 rfl) ?_
        refine va_get (D := D) (ci := 7) (v := .ref (a 12)) (C := RX8) (T := TX8) (N := 17) hx hb hts hi_X8_layReach_X8 hown hK.1 hP 0 rfl rfl 16 (by decide) (hts _ k_X8_layReach_1) (fun _ h9 => h9) rfl dX8_layReach_9 ?_
        refine lv_iload_n hx hb dX8_layReach_12 rfl (lv_at hl 2 rfl) ?_
        refine lv_iconst (v := (0)) hx hb dX8_layReach_13 (by decide) ?_
        obtain ⟨hi, h⟩ := h
        refine x_iast (ws' := W_X8 ca a rowSizes rows textSizes texts now keeps kept asked upper lower finding findings read at_ costs ways (upd reach (x2.toNatClampNeg) (0 : Int32))) hx hb hK hP hD hS 12 rfl hi (k := (x2.toNatClampNeg)) rfl rfl dX8_layReach_14 (fun H locs hP hD hS => ?_)
        refine lv_iinc (v := x2 + 1) (lv' := [(2, .int (x2 + 1)), (0, .ref (a 0)), (1, .int gone)]) hx hb dX8_layReach_15 hl (k := 2) rfl rfl (by decide) rfl (fun ls hl => ?_)
        refine lv_goto (tgt := 2) hx hb dX8_layReach_18 (by decide) ?_
        exact ih2 (upd reach (x2.toNatClampNeg) (0 : Int32)) (x2 + 1) h _ _ hP hD hS ls (lv_sub hl [1, 2, 0] rfl)
  unfold wp_X8_layReach at h
  refine lv_iconst (v := (0)) hx hb dX8_layReach_0 (by decide) ?_
  refine lv_istore_n (lv' := [(2, .int (0 : Int32)), (0, .ref (a 0)), (1, .int gone)]) hx hb dX8_layReach_1 rfl hl (by decide) rfl (fun ls hl => ?_)
  obtain ⟨zn, h⟩ := h
  exact w_2  zn reach (0 : Int32) h _ _ hP hD hS ls (lv_sub hl [1, 2, 0] rfl)

-- IronedQuarrelsModel.ringed(I)I
def wb_X8_ringed_9 (post : Int32 → (Nat → Int32) → Prop) (K9 : (Nat → Int32) → (Int32) → (Int32) → Prop) (reach : Nat → Int32) (x2 : Int32) (x3 : Int32) : Prop :=
  ((6 : Int32) ≤ x3 → (post x2 reach)) ∧ (¬ (6 : Int32) ≤ x3 → (vp_in x3 6 ∧ wp_X8_has (reach x3.toNatClampNeg) x3 (fun r2 => (r2 = 0 → (K9 reach (x2 ||| (0 : Int32)) (x3 + 1))) ∧ (¬ r2 = 0 → (K9 reach (x2 ||| ((1 : Int32) <<< (x3 &&& 31))) (x3 + 1))))))
def wl_X8_ringed_9 (post : Int32 → (Nat → Int32) → Prop) : Nat → (Nat → Int32) → (Int32) → (Int32) → Prop
  | 0 => fun _ _ _ => False
  | zn + 1 => wb_X8_ringed_9 post (wl_X8_ringed_9 post zn)
def wp_X8_ringed (now : Nat → Int32) (reach : Nat → Int32) (gone : Int32) (post : Int32 → (Nat → Int32) → Prop) : Prop :=
  wp_X8_layReach now reach gone (fun reach_1 => ∃ zn, wl_X8_ringed_9 post zn reach_1 (0 : Int32) (0 : Int32))
def rm_X8_ringed : Room := { frames := 2, cells := 0, slots := 0, locals := 45 }
theorem k_X8_ringed_1 : Cond.fieldLink RX8 49 "IronedQuarrelsModel" "reach" "[I" ∈ wsX8_ringed := List.mem_of_getElem? (i := 1) (by decide +kernel)
theorem hi_X8_ringed_X8 : ∀ w ∈ wsX80, w ∈ wsX8_ringed := fun w h => List.mem_cons_of_mem _ (List.mem_append_right _ h)
set_option maxHeartbeats 4000000 in
set_option maxRecDepth 100000 in
theorem c_X8_ringed (l : Launch) (D : va_G) (ca : Nat → ClassId) (a : Nat → Nat) (rowSizes : Nat → Int32) (rows : Nat → Int32) (textSizes : Nat → Int32) (texts : Nat → Int32) (now : Nat → Int32) (keeps : Nat → Int32) (kept : Nat → Int32) (asked : Int32) (upper : Int64) (lower : Int64) (finding : Int32) (findings : Nat → Int32) (read : Nat → Int32) (at_ : Int32) (costs : Nat → Int32) (ways : Nat → Int64) (reach : Nat → Int32) (gone : Int32) (post : Int32 → (Nat → Int32) → Prop) (hd : va_D (fun _ => True) (W_X8 ca a rowSizes rows textSizes texts now keeps kept asked upper lower finding findings read at_ costs ways reach)) (h : wp_X8_ringed now reach gone post) : Met l yX8_ringed wsX8_ringed rm_X8_ringed (PcX D ca [.ref (a 0), .int gone] (W_X8 ca a rowSizes rows textSizes texts now keeps kept asked upper lower finding findings read at_ costs ways reach)) (wrI (S := (Nat → Int32)) D (W_X8 ca a rowSizes rows textSizes texts now keeps kept asked upper lower finding findings read at_ costs ways reach) (fun zu => W_X8 ca a rowSizes rows textSizes texts now keeps kept asked upper lower finding findings read at_ costs ways zu) (fun zr zu => post zr zu)) 0 0 (adr (W_X8 ca a rowSizes rows textSizes texts now keeps kept asked upper lower finding findings read at_ costs ways reach)) := by
  refine Met.ofW (cc := cX8_ringed) (maxL := 4) (ret := (some .int)) (by decide) rfl ?_
  intro zp ze zs zm za zb zt zc z1 B hml hv
  obtain ⟨rfl, hP, hK⟩ := hv
  have hx := B.exec
  have hb := B.bytes
  have hr := B.returns
  have hts := atoms_spec (ws := wsX8_ringed) B.pre
  have hown : zs.vm.findClass RX8 = some zm.cls := findClass_of_methodNamed B.named
  have hlocks := B.notSynchronized
  have hD : va_D (adr (W_X8 ca a rowSizes rows textSizes texts now keeps kept asked upper lower finding findings read at_ costs ways reach)) (W_X8 ca a rowSizes rows textSizes texts now keeps kept asked upper lower finding findings read at_ costs ways reach) := hd.adr
  have hS : va_S (adr (W_X8 ca a rowSizes rows textSizes texts now keeps kept asked upper lower finding findings read at_ costs ways reach)) zs.heap zs.heap [] := va_S.rf
  have hl := lv_entry ([.ref (a 0), .int gone]) (n := 4) (Nat.le_of_ble_eq_true rfl)
  rw [lg_entry_eq]
  generalize (lg_sl ([.ref (a 0), .int gone]) ++ List.replicate (4 - (lg_sl ([.ref (a 0), .int gone])).length) Slot.unset).toArray = ls at hl ⊢
  replace hl : lv_has ls 4 [(0, .ref (a 0)), (1, .int gone)] := hl
  show W zp l ze rm_X8_ringed zs zm ([.ref (a 0), .int gone] : List Value).toArray zb zt zc zs.heap [] 0 0 (MQ zb (wrI (S := (Nat → Int32)) D (W_X8 ca a rowSizes rows textSizes texts now keeps kept asked upper lower finding findings read at_ costs ways reach) (fun zu => W_X8 ca a rowSizes rows textSizes texts now keeps kept asked upper lower finding findings read at_ costs ways zu) (fun zr zu => post zr zu)) ([.ref (a 0), .int gone] : List Value).toArray zs 0 0 (adr (W_X8 ca a rowSizes rows textSizes texts now keeps kept asked upper lower finding findings read at_ costs ways reach))) (F0 zm 0 ls [])
  have w_9 : ∀ (zn : Nat) (reach : Nat → Int32) (x2 : Int32) (x3 : Int32), wl_X8_ringed_9 post zn reach x2 x3 → ∀ (H : Heap) (locs : List Loc), va_P D vwCl (W_X8 ca a rowSizes rows textSizes texts now keeps kept asked upper lower finding findings read at_ costs ways reach) H → va_D (adr (W_X8 ca a rowSizes rows textSizes texts now keeps kept asked upper lower finding findings read at_ costs ways reach)) (W_X8 ca a rowSizes rows textSizes texts now keeps kept asked upper lower finding findings read at_ costs ways reach) → va_S (adr (W_X8 ca a rowSizes rows textSizes texts now keeps kept asked upper lower finding findings read at_ costs ways reach)) zs.heap H locs → ∀ ls : Array Slot, lv_has ls 4 [(0, .ref (a 0)), (2, .int x2), (3, .int x3)] → W zp l ze rm_X8_ringed zs zm ([.ref (a 0), .int gone] : List Value).toArray zb zt zc H locs 0 0 (MQ zb (wrI (S := (Nat → Int32)) D (W_X8 ca a rowSizes rows textSizes texts now keeps kept asked upper lower finding findings read at_ costs ways reach) (fun zu => W_X8 ca a rowSizes rows textSizes texts now keeps kept asked upper lower finding findings read at_ costs ways zu) (fun zr zu => post zr zu)) ([.ref (a 0), .int gone] : List Value).toArray zs 0 0 (adr (W_X8 ca a rowSizes rows textSizes texts now keeps kept asked upper lower finding findings read at_ costs ways reach))) (F0 zm 9 ls []) := by
    intro zn
    induction zn with
    | zero => intro reach x2 x3 h; exact h.elim
    | succ zn ih9 =>
      intro reach x2 x3 h H locs hP hD hS ls hl
      replace h : wb_X8_ringed_9 post (wl_X8_ringed_9 post zn) reach x2 x3 := h
      unfold wb_X8_ringed_9 at h
      refine lv_iload_n hx hb dX8_ringed_9 rfl (lv_at hl 2 rfl) ?_
      refine lv_bipush (v := (6)) hx hb dX8_ringed_10 (by decide) ?_
      refine lv_icmp_ge (tgt := 44) hx hb dX8_ringed_12 (by decide) (fun hc => ?_) (fun hc => ?_)
      · have h := h.1 hc
        refine lv_iload_n hx hb dX8_ringed_44 rfl (lv_at hl 1 rfl) ?_
        exact W.iret (v := x2) hx hb hr (fun zt ht hW => ⟨⟨x2, reach, rfl, h, by rw [ht]; exact hP⟩, hS.F ht⟩) hS.2.2 dX8_ringed_45
      · have h := h.2 hc
        refine lv_iload_n hx hb dX8_ringed_15 rfl (lv_at hl 1 rfl) ?_
        refine lv_aload_n hx hb dX8_ringed_16 rfl (lv_at hl 0 rfl) ?_
        refine va_get (D := D) (ci := 7) (v := .ref (a 12)) (C := RX8) (T := TX8) (N := 17) hx hb hts hi_X8_ringed_X8 hown hK.1 hP 0 rfl rfl 16 (by decide) (hts _ k_X8_ringed_1) (fun _ h9 => h9) rfl dX8_ringed_17 ?_
        refine lv_iload_n hx hb dX8_ringed_20 rfl (lv_at hl 2 rfl) ?_
        obtain ⟨hi, h⟩ := h
        refine x_iald (v := reach x3.toNatClampNeg) hx hb hK hP 12 rfl hi rfl dX8_ringed_21 ?_
        refine lv_iload_n hx hb dX8_ringed_22 rfl (lv_at hl 2 rfl) ?_
        refine rd_callz (va_runS (As := [.int (reach x3.toNatClampNeg), .int x3]) (rest := [.int x2]) ⟨hx, hb, hml, hown, hts⟩ (c_X8_has l D ca   (reach x3.toNatClampNeg) x3 _ h) (va_cwS 2 hts gX8_ringed_X8_has rfl rfl rfl (by decide +kernel) ⟨Nat.le_of_ble_eq_true rfl, Nat.le_of_ble_eq_true rfl⟩) (PcX.preS hK (fun zk zq zh => by simp at zh)) rfl rfl hl.1 rfl (lv_room (Nat.le_of_ble_eq_true rfl)) dX8_ringed_23 ⟨Nat.le_of_ble_eq_true rfl, Nat.le_of_ble_eq_true rfl⟩) (fun r2 h hz_r2 => ?_)
        try dsimp only at h
        refine lv_if_eq (tgt := 35) hx hb dX8_ringed_26 (by decide) (fun hc => ?_) (fun hc => ?_)
        · have h := h.1 hc
          refine lv_iconst (v := (0)) hx hb dX8_ringed_35 (by decide) ?_
          refine lv_ior hx hb dX8_ringed_36 ?_
          refine lv_istore_n (lv' := [(2, .int (x2 ||| (0 : Int32))), (0, .ref (a 0)), (3, .int x3)]) hx hb dX8_ringed_37 rfl hl (by decide) rfl (fun ls hl => ?_)
          refine lv_iinc (v := x3 + 1) (lv' := [(3, .int (x3 + 1)), (2, .int (x2 ||| (0 : Int32))), (0, .ref (a 0))]) hx hb dX8_ringed_38 hl (k := 2) rfl rfl (by decide) rfl (fun ls hl => ?_)
          refine lv_goto (tgt := 9) hx hb dX8_ringed_41 (by decide) ?_
          exact ih9 reach (x2 ||| (0 : Int32)) (x3 + 1) h _ _ hP hD hS ls (lv_sub hl [2, 1, 0] rfl)
        · have h := h.2 hc
          refine lv_iconst (v := (1)) hx hb dX8_ringed_29 (by decide) ?_
          refine lv_iload_n hx hb dX8_ringed_30 rfl (lv_at hl 2 rfl) ?_
          refine lv_ishl hx hb dX8_ringed_31 ?_
          refine lv_goto (tgt := 36) hx hb dX8_ringed_32 (by decide) ?_
          refine lv_ior hx hb dX8_ringed_36 ?_
          refine lv_istore_n (lv' := [(2, .int (x2 ||| ((1 : Int32) <<< (x3 &&& 31)))), (0, .ref (a 0)), (3, .int x3)]) hx hb dX8_ringed_37 rfl hl (by decide) rfl (fun ls hl => ?_)
          refine lv_iinc (v := x3 + 1) (lv' := [(3, .int (x3 + 1)), (2, .int (x2 ||| ((1 : Int32) <<< (x3 &&& 31)))), (0, .ref (a 0))]) hx hb dX8_ringed_38 hl (k := 2) rfl rfl (by decide) rfl (fun ls hl => ?_)
          refine lv_goto (tgt := 9) hx hb dX8_ringed_41 (by decide) ?_
          exact ih9 reach (x2 ||| ((1 : Int32) <<< (x3 &&& 31))) (x3 + 1) h _ _ hP hD hS ls (lv_sub hl [2, 1, 0] rfl)
  unfold wp_X8_ringed at h
  refine lv_aload_n hx hb dX8_ringed_0 rfl (lv_at hl 0 rfl) ?_
  refine lv_iload_n hx hb dX8_ringed_1 rfl (lv_at hl 1 rfl) ?_
  refine wr_callv (ws1 := fun zu => W_X8 ca a rowSizes rows textSizes texts now keeps kept asked upper lower finding findings read at_ costs ways zu) (wr := ([] : List Nat).filterMap (fun zi => (W_X8 ca a rowSizes rows textSizes texts now keeps kept asked upper lower finding findings read at_ costs ways reach : va_W)[zi]?)) (n := 13) (va_runV (As := [.int gone]) (rest := []) ⟨hx, hb, hml, hown, hts⟩ (c_X8_layReach l D ca a rowSizes rows textSizes texts now keeps kept asked upper lower finding findings read at_ costs ways reach gone _ (hD.subM [0, 1, 2, 3, 4, 5, 6, 7, 8, 9, 10, 11, 12] (by decide) rfl) h) (cwV 1 hts gX8_ringed_X8_layReach rfl rfl rfl (by decide +kernel) ⟨Nat.le_of_ble_eq_true rfl, Nat.le_of_ble_eq_true rfl⟩) (PcX.preV (q := (RX8, TX8, 17)) (ci := 7) (q0 := 0) hK hP rfl rfl hP) rfl rfl hl.1 rfl (lv_room (Nat.le_of_ble_eq_true rfl)) dX8_ringed_2 ⟨Nat.le_of_ble_eq_true rfl, Nat.le_of_ble_eq_true rfl⟩) hP hD hS [0, 1, 2, 3, 4, 5, 6, 7, 8, 9, 10, 11, 12] [] rfl (fun _ => rfl) rfl (fun _ => rfl) (fun _ => rfl) (fun _ => rfl) (by decide +kernel) (by decide +kernel) (fun zu H locs h hP hD hS => ?_)
  obtain ⟨reach_1, rfl⟩ : ∃ zz, zz = zu := ⟨zu, rfl⟩
  have hP : va_P D vwCl (W_X8 ca a rowSizes rows textSizes texts now keeps kept asked upper lower finding findings read at_ costs ways reach_1) H := hP
  have hD : va_D _ (W_X8 ca a rowSizes rows textSizes texts now keeps kept asked upper lower finding findings read at_ costs ways reach_1) := hD
  try dsimp only at h
  refine lv_iconst (v := (0)) hx hb dX8_ringed_5 (by decide) ?_
  refine lv_istore_n (lv' := [(2, .int (0 : Int32)), (0, .ref (a 0)), (1, .int gone)]) hx hb dX8_ringed_6 rfl hl (by decide) rfl (fun ls hl => ?_)
  refine lv_iconst (v := (0)) hx hb dX8_ringed_7 (by decide) ?_
  refine lv_istore_n (lv' := [(3, .int (0 : Int32)), (2, .int (0 : Int32)), (0, .ref (a 0)), (1, .int gone)]) hx hb dX8_ringed_8 rfl hl (by decide) rfl (fun ls hl => ?_)
  obtain ⟨zn, h⟩ := h
  exact w_9  zn reach_1 (0 : Int32) (0 : Int32) h _ _ hP hD hS ls (lv_sub hl [2, 1, 0] rfl)

-- IronedQuarrelsModel.rings()I
def wb_X8_rings_4 (now : Nat → Int32) (post : Int32 → (Int32) → (Nat → Int32) → Prop) (K4 : (Int32) → (Nat → Int32) → (Int32) → (Int32) → Prop) (asked : Int32) (reach : Nat → Int32) (x1 : Int32) (x2 : Int32) : Prop :=
  ((now 0) ≤ x2 → (wp_X8_ringed now reach (0 : Int32) (fun r1 reach_2 => wp_X8_bits x1 (fun r3 => wp_X8_answer r1 r3 (fun r4 asked_5 => post r4 asked_5 reach_2))))) ∧ (¬ (now 0) ≤ x2 → (wp_X8_has (now 2) x2 (fun r6 => (r6 = 0 → (K4 asked reach (x1 ||| (0 : Int32)) (x2 + 1))) ∧ (¬ r6 = 0 → (vp_in ((15 : Int32) + x2) 115 ∧ vp_in ((27 : Int32) + x2) 115 ∧ K4 asked reach (x1 ||| (((1 : Int32) <<< ((now ((15 : Int32) + x2).toNatClampNeg) &&& 31)) ||| ((1 : Int32) <<< ((now ((27 : Int32) + x2).toNatClampNeg) &&& 31)))) (x2 + 1))))))
def wl_X8_rings_4 (now : Nat → Int32) (post : Int32 → (Int32) → (Nat → Int32) → Prop) : Nat → (Int32) → (Nat → Int32) → (Int32) → (Int32) → Prop
  | 0 => fun _ _ _ _ => False
  | zn + 1 => wb_X8_rings_4 now post (wl_X8_rings_4 now post zn)
def wp_X8_rings (now : Nat → Int32) (asked : Int32) (reach : Nat → Int32) (post : Int32 → (Int32) → (Nat → Int32) → Prop) : Prop :=
  ∃ zn, wl_X8_rings_4 now post zn asked reach (0 : Int32) (0 : Int32)
def rm_X8_rings : Room := { frames := 3, cells := 0, slots := 0, locals := 68 }
theorem k_X8_rings_1 : Cond.fieldLink RX8 22 "IronedQuarrelsModel" "now" "[I" ∈ wsX8_rings := List.mem_of_getElem? (i := 1) (by decide +kernel)
theorem hi_X8_rings_X8 : ∀ w ∈ wsX80, w ∈ wsX8_rings := fun w h => List.mem_cons_of_mem _ (List.mem_append_right _ h)
set_option maxHeartbeats 4000000 in
set_option maxRecDepth 100000 in
theorem c_X8_rings (l : Launch) (D : va_G) (ca : Nat → ClassId) (a : Nat → Nat) (rowSizes : Nat → Int32) (rows : Nat → Int32) (textSizes : Nat → Int32) (texts : Nat → Int32) (now : Nat → Int32) (keeps : Nat → Int32) (kept : Nat → Int32) (asked : Int32) (upper : Int64) (lower : Int64) (finding : Int32) (findings : Nat → Int32) (read : Nat → Int32) (at_ : Int32) (costs : Nat → Int32) (ways : Nat → Int64) (reach : Nat → Int32)  (post : Int32 → (Int32) → (Nat → Int32) → Prop) (hd : va_D (fun _ => True) (W_X8 ca a rowSizes rows textSizes texts now keeps kept asked upper lower finding findings read at_ costs ways reach)) (h : wp_X8_rings now asked reach post) : Met l yX8_rings wsX8_rings rm_X8_rings (PcX D ca [.ref (a 0)] (W_X8 ca a rowSizes rows textSizes texts now keeps kept asked upper lower finding findings read at_ costs ways reach)) (wrI (S := (Int32) × (Nat → Int32)) D (W_X8 ca a rowSizes rows textSizes texts now keeps kept asked upper lower finding findings read at_ costs ways reach) (fun zu => W_X8 ca a rowSizes rows textSizes texts now keeps kept zu.1 upper lower finding findings read at_ costs ways zu.2) (fun zr zu => post zr zu.1 zu.2)) 0 0 (adr (W_X8 ca a rowSizes rows textSizes texts now keeps kept asked upper lower finding findings read at_ costs ways reach)) := by
  refine Met.ofW (cc := cX8_rings) (maxL := 3) (ret := (some .int)) (by decide) rfl ?_
  intro zp ze zs zm za zb zt zc z1 B hml hv
  obtain ⟨rfl, hP, hK⟩ := hv
  have hx := B.exec
  have hb := B.bytes
  have hr := B.returns
  have hts := atoms_spec (ws := wsX8_rings) B.pre
  have hown : zs.vm.findClass RX8 = some zm.cls := findClass_of_methodNamed B.named
  have hlocks := B.notSynchronized
  have hD : va_D (adr (W_X8 ca a rowSizes rows textSizes texts now keeps kept asked upper lower finding findings read at_ costs ways reach)) (W_X8 ca a rowSizes rows textSizes texts now keeps kept asked upper lower finding findings read at_ costs ways reach) := hd.adr
  have hS : va_S (adr (W_X8 ca a rowSizes rows textSizes texts now keeps kept asked upper lower finding findings read at_ costs ways reach)) zs.heap zs.heap [] := va_S.rf
  have hl := lv_entry ([.ref (a 0)]) (n := 3) (Nat.le_of_ble_eq_true rfl)
  rw [lg_entry_eq]
  generalize (lg_sl ([.ref (a 0)]) ++ List.replicate (3 - (lg_sl ([.ref (a 0)])).length) Slot.unset).toArray = ls at hl ⊢
  replace hl : lv_has ls 3 [(0, .ref (a 0))] := hl
  show W zp l ze rm_X8_rings zs zm ([.ref (a 0)] : List Value).toArray zb zt zc zs.heap [] 0 0 (MQ zb (wrI (S := (Int32) × (Nat → Int32)) D (W_X8 ca a rowSizes rows textSizes texts now keeps kept asked upper lower finding findings read at_ costs ways reach) (fun zu => W_X8 ca a rowSizes rows textSizes texts now keeps kept zu.1 upper lower finding findings read at_ costs ways zu.2) (fun zr zu => post zr zu.1 zu.2)) ([.ref (a 0)] : List Value).toArray zs 0 0 (adr (W_X8 ca a rowSizes rows textSizes texts now keeps kept asked upper lower finding findings read at_ costs ways reach))) (F0 zm 0 ls [])
  have w_4 : ∀ (zn : Nat) (asked : Int32) (reach : Nat → Int32) (x1 : Int32) (x2 : Int32), wl_X8_rings_4 now post zn asked reach x1 x2 → ∀ (H : Heap) (locs : List Loc), va_P D vwCl (W_X8 ca a rowSizes rows textSizes texts now keeps kept asked upper lower finding findings read at_ costs ways reach) H → va_D (adr (W_X8 ca a rowSizes rows textSizes texts now keeps kept asked upper lower finding findings read at_ costs ways reach)) (W_X8 ca a rowSizes rows textSizes texts now keeps kept asked upper lower finding findings read at_ costs ways reach) → va_S (adr (W_X8 ca a rowSizes rows textSizes texts now keeps kept asked upper lower finding findings read at_ costs ways reach)) zs.heap H locs → ∀ ls : Array Slot, lv_has ls 3 [(0, .ref (a 0)), (1, .int x1), (2, .int x2)] → W zp l ze rm_X8_rings zs zm ([.ref (a 0)] : List Value).toArray zb zt zc H locs 0 0 (MQ zb (wrI (S := (Int32) × (Nat → Int32)) D (W_X8 ca a rowSizes rows textSizes texts now keeps kept asked upper lower finding findings read at_ costs ways reach) (fun zu => W_X8 ca a rowSizes rows textSizes texts now keeps kept zu.1 upper lower finding findings read at_ costs ways zu.2) (fun zr zu => post zr zu.1 zu.2)) ([.ref (a 0)] : List Value).toArray zs 0 0 (adr (W_X8 ca a rowSizes rows textSizes texts now keeps kept asked upper lower finding findings read at_ costs ways reach))) (F0 zm 4 ls []) := by
    intro zn
    induction zn with
    | zero => intro asked reach x1 x2 h; exact h.elim
    | succ zn ih4 =>
      intro asked reach x1 x2 h H locs hP hD hS ls hl
      replace h : wb_X8_rings_4 now post (wl_X8_rings_4 now post zn) asked reach x1 x2 := h
      unfold wb_X8_rings_4 at h
      refine lv_iload_n hx hb dX8_rings_4 rfl (lv_at hl 2 rfl) ?_
      refine lv_aload_n hx hb dX8_rings_5 rfl (lv_at hl 0 rfl) ?_
      refine va_get (D := D) (ci := 7) (v := .ref (a 5)) (C := RX8) (T := TX8) (N := 17) hx hb hts hi_X8_rings_X8 hown hK.1 hP 0 rfl rfl 4 (by decide) (hts _ k_X8_rings_1) (fun _ h9 => h9) rfl dX8_rings_6 ?_
      refine lv_iconst (v := (0)) hx hb dX8_rings_9 (by decide) ?_
      refine x_iald (v := now 0) hx hb hK hP 5 rfl (vin_lit (by decide)) rfl dX8_rings_10 ?_
      refine lv_icmp_ge (tgt := 63) hx hb dX8_rings_11 (by decide) (fun hc => ?_) (fun hc => ?_)
      · have h := h.1 hc
        refine lv_aload_n hx hb dX8_rings_63 rfl (lv_at hl 0 rfl) ?_
        refine lv_aload_n hx hb dX8_rings_64 rfl (lv_at hl 0 rfl) ?_
        refine lv_iconst (v := (0)) hx hb dX8_rings_65 (by decide) ?_
        refine wr_calli (ws1 := fun zu => W_X8 ca a rowSizes rows textSizes texts now keeps kept asked upper lower finding findings read at_ costs ways zu) (wr := ([] : List Nat).filterMap (fun zi => (W_X8 ca a rowSizes rows textSizes texts now keeps kept asked upper lower finding findings read at_ costs ways reach : va_W)[zi]?)) (n := 13) (va_runV (As := [.int (0 : Int32)]) (rest := [.ref (a 0)]) ⟨hx, hb, hml, hown, hts⟩ (c_X8_ringed l D ca a rowSizes rows textSizes texts now keeps kept asked upper lower finding findings read at_ costs ways reach (0 : Int32) _ (hD.subM [0, 1, 2, 3, 4, 5, 6, 7, 8, 9, 10, 11, 12] (by decide) rfl) h) (cwV 1 hts gX8_rings_X8_ringed rfl rfl rfl (by decide +kernel) ⟨Nat.le_of_ble_eq_true rfl, Nat.le_of_ble_eq_true rfl⟩) (PcX.preV (q := (RX8, TX8, 17)) (ci := 7) (q0 := 0) hK hP rfl rfl hP) rfl rfl hl.1 rfl (lv_room (Nat.le_of_ble_eq_true rfl)) dX8_rings_66 ⟨Nat.le_of_ble_eq_true rfl, Nat.le_of_ble_eq_true rfl⟩) hP hD hS [0, 1, 2, 3, 4, 5, 6, 7, 8, 9, 10, 11, 12] [] rfl (fun _ => rfl) rfl (fun _ => rfl) (fun _ => rfl) (fun _ => rfl) (by decide +kernel) (by decide +kernel) (fun r1 zu H locs h hP hD hS => ?_)
        obtain ⟨reach_2, rfl⟩ : ∃ zz, zz = zu := ⟨zu, rfl⟩
        have hP : va_P D vwCl (W_X8 ca a rowSizes rows textSizes texts now keeps kept asked upper lower finding findings read at_ costs ways reach_2) H := hP
        have hD : va_D _ (W_X8 ca a rowSizes rows textSizes texts now keeps kept asked upper lower finding findings read at_ costs ways reach_2) := hD
        try dsimp only at h
        refine lv_iload_n hx hb dX8_rings_69 rfl (lv_at hl 1 rfl) ?_
        refine rd_calli (va_runS (As := [.int x1]) (rest := [.int r1, .ref (a 0)]) ⟨hx, hb, hml, hown, hts⟩ (c_X8_bits l D ca   x1 _ h) (va_cwS 1 hts gX8_rings_X8_bits rfl rfl rfl (by decide +kernel) ⟨Nat.le_of_ble_eq_true rfl, Nat.le_of_ble_eq_true rfl⟩) (PcX.preS hK (fun zk zq zh => by simp at zh)) rfl rfl hl.1 rfl (lv_room (Nat.le_of_ble_eq_true rfl)) dX8_rings_70 ⟨Nat.le_of_ble_eq_true rfl, Nat.le_of_ble_eq_true rfl⟩) (fun r3 h => ?_)
        try dsimp only at h
        refine wr_calli (ws1 := fun zu => W_X8 ca a rowSizes rows textSizes texts now keeps kept zu upper lower finding findings read at_ costs ways reach_2) (wr := ([] : List Nat).filterMap (fun zi => (W_X8 ca a rowSizes rows textSizes texts now keeps kept asked upper lower finding findings read at_ costs ways reach_2 : va_W)[zi]?)) (n := 13) (va_runV (As := [.int r1, .int r3]) (rest := []) ⟨hx, hb, hml, hown, hts⟩ (c_X8_answer l D ca a rowSizes rows textSizes texts now keeps kept asked upper lower finding findings read at_ costs ways reach_2 r1 r3 _ (hD.subM [0, 1, 2, 3, 4, 5, 6, 7, 8, 9, 10, 11, 12] (by decide) rfl) h) (cwV 2 hts gX8_rings_X8_answer rfl rfl rfl (by decide +kernel) ⟨Nat.le_of_ble_eq_true rfl, Nat.le_of_ble_eq_true rfl⟩) (PcX.preV (q := (RX8, TX8, 17)) (ci := 7) (q0 := 0) hK hP rfl rfl hP) rfl rfl hl.1 rfl (lv_room (Nat.le_of_ble_eq_true rfl)) dX8_rings_73 ⟨Nat.le_of_ble_eq_true rfl, Nat.le_of_ble_eq_true rfl⟩) hP hD hS [0, 1, 2, 3, 4, 5, 6, 7, 8, 9, 10, 11, 12] [] rfl (fun _ => rfl) rfl (fun _ => rfl) (fun _ => rfl) (fun _ => rfl) (by decide +kernel) (by decide +kernel) (fun r4 zu H locs h hP hD hS => ?_)
        obtain ⟨asked_5, rfl⟩ : ∃ zz, zz = zu := ⟨zu, rfl⟩
        have hP : va_P D vwCl (W_X8 ca a rowSizes rows textSizes texts now keeps kept asked_5 upper lower finding findings read at_ costs ways reach_2) H := hP
        have hD : va_D _ (W_X8 ca a rowSizes rows textSizes texts now keeps kept asked_5 upper lower finding findings read at_ costs ways reach_2) := hD
        try dsimp only at h
        exact W.iret (v := r4) hx hb hr (fun zt ht hW => ⟨⟨r4, (asked_5, reach_2), rfl, h, by rw [ht]; exact hP⟩, hS.F ht⟩) hS.2.2 dX8_rings_76
      · have h := h.2 hc
        refine lv_iload_n hx hb dX8_rings_14 rfl (lv_at hl 1 rfl) ?_
        refine lv_aload_n hx hb dX8_rings_15 rfl (lv_at hl 0 rfl) ?_
        refine va_get (D := D) (ci := 7) (v := .ref (a 5)) (C := RX8) (T := TX8) (N := 17) hx hb hts hi_X8_rings_X8 hown hK.1 hP 0 rfl rfl 4 (by decide) (hts _ k_X8_rings_1) (fun _ h9 => h9) rfl dX8_rings_16 ?_
        refine lv_iconst (v := (2)) hx hb dX8_rings_19 (by decide) ?_
        refine x_iald (v := now 2) hx hb hK hP 5 rfl (vin_lit (by decide)) rfl dX8_rings_20 ?_
        refine lv_iload_n hx hb dX8_rings_21 rfl (lv_at hl 2 rfl) ?_
        refine rd_callz (va_runS (As := [.int (now 2), .int x2]) (rest := [.int x1]) ⟨hx, hb, hml, hown, hts⟩ (c_X8_has l D ca   (now 2) x2 _ h) (va_cwS 2 hts gX8_rings_X8_has rfl rfl rfl (by decide +kernel) ⟨Nat.le_of_ble_eq_true rfl, Nat.le_of_ble_eq_true rfl⟩) (PcX.preS hK (fun zk zq zh => by simp at zh)) rfl rfl hl.1 rfl (lv_room (Nat.le_of_ble_eq_true rfl)) dX8_rings_22 ⟨Nat.le_of_ble_eq_true rfl, Nat.le_of_ble_eq_true rfl⟩) (fun r6 h hz_r6 => ?_)
        try dsimp only at h
        refine lv_if_eq (tgt := 54) hx hb dX8_rings_25 (by decide) (fun hc => ?_) (fun hc => ?_)
        · have h := h.1 hc
          refine lv_iconst (v := (0)) hx hb dX8_rings_54 (by decide) ?_
          refine lv_ior hx hb dX8_rings_55 ?_
          refine lv_istore_n (lv' := [(1, .int (x1 ||| (0 : Int32))), (0, .ref (a 0)), (2, .int x2)]) hx hb dX8_rings_56 rfl hl (by decide) rfl (fun ls hl => ?_)
          refine lv_iinc (v := x2 + 1) (lv' := [(2, .int (x2 + 1)), (1, .int (x1 ||| (0 : Int32))), (0, .ref (a 0))]) hx hb dX8_rings_57 hl (k := 2) rfl rfl (by decide) rfl (fun ls hl => ?_)
          refine lv_goto (tgt := 4) hx hb dX8_rings_60 (by decide) ?_
          exact ih4 asked reach (x1 ||| (0 : Int32)) (x2 + 1) h _ _ hP hD hS ls (lv_sub hl [2, 1, 0] rfl)
        · have h := h.2 hc
          refine lv_iconst (v := (1)) hx hb dX8_rings_28 (by decide) ?_
          refine lv_aload_n hx hb dX8_rings_29 rfl (lv_at hl 0 rfl) ?_
          refine va_get (D := D) (ci := 7) (v := .ref (a 5)) (C := RX8) (T := TX8) (N := 17) hx hb hts hi_X8_rings_X8 hown hK.1 hP 0 rfl rfl 4 (by decide) (hts _ k_X8_rings_1) (fun _ h9 => h9) rfl dX8_rings_30 ?_
          refine lv_bipush (v := (15)) hx hb dX8_rings_33 (by decide) ?_
          refine lv_iload_n hx hb dX8_rings_35 rfl (lv_at hl 2 rfl) ?_
          refine lv_iadd hx hb dX8_rings_36 ?_
          obtain ⟨hi, h⟩ := h
          refine x_iald (v := now ((15 : Int32) + x2).toNatClampNeg) hx hb hK hP 5 rfl hi rfl dX8_rings_37 ?_
          refine lv_ishl hx hb dX8_rings_38 ?_
          refine lv_iconst (v := (1)) hx hb dX8_rings_39 (by decide) ?_
          refine lv_aload_n hx hb dX8_rings_40 rfl (lv_at hl 0 rfl) ?_
          refine va_get (D := D) (ci := 7) (v := .ref (a 5)) (C := RX8) (T := TX8) (N := 17) hx hb hts hi_X8_rings_X8 hown hK.1 hP 0 rfl rfl 4 (by decide) (hts _ k_X8_rings_1) (fun _ h9 => h9) rfl dX8_rings_41 ?_
          refine lv_bipush (v := (27)) hx hb dX8_rings_44 (by decide) ?_
          refine lv_iload_n hx hb dX8_rings_46 rfl (lv_at hl 2 rfl) ?_
          refine lv_iadd hx hb dX8_rings_47 ?_
          obtain ⟨hi, h⟩ := h
          refine x_iald (v := now ((27 : Int32) + x2).toNatClampNeg) hx hb hK hP 5 rfl hi rfl dX8_rings_48 ?_
          refine lv_ishl hx hb dX8_rings_49 ?_
          refine lv_ior hx hb dX8_rings_50 ?_
          refine lv_goto (tgt := 55) hx hb dX8_rings_51 (by decide) ?_
          refine lv_ior hx hb dX8_rings_55 ?_
          refine lv_istore_n (lv' := [(1, .int (x1 ||| (((1 : Int32) <<< ((now ((15 : Int32) + x2).toNatClampNeg) &&& 31)) ||| ((1 : Int32) <<< ((now ((27 : Int32) + x2).toNatClampNeg) &&& 31))))), (0, .ref (a 0)), (2, .int x2)]) hx hb dX8_rings_56 rfl hl (by decide) rfl (fun ls hl => ?_)
          refine lv_iinc (v := x2 + 1) (lv' := [(2, .int (x2 + 1)), (1, .int (x1 ||| (((1 : Int32) <<< ((now ((15 : Int32) + x2).toNatClampNeg) &&& 31)) ||| ((1 : Int32) <<< ((now ((27 : Int32) + x2).toNatClampNeg) &&& 31))))), (0, .ref (a 0))]) hx hb dX8_rings_57 hl (k := 2) rfl rfl (by decide) rfl (fun ls hl => ?_)
          refine lv_goto (tgt := 4) hx hb dX8_rings_60 (by decide) ?_
          exact ih4 asked reach (x1 ||| (((1 : Int32) <<< ((now ((15 : Int32) + x2).toNatClampNeg) &&& 31)) ||| ((1 : Int32) <<< ((now ((27 : Int32) + x2).toNatClampNeg) &&& 31)))) (x2 + 1) h _ _ hP hD hS ls (lv_sub hl [2, 1, 0] rfl)
  unfold wp_X8_rings at h
  refine lv_iconst (v := (0)) hx hb dX8_rings_0 (by decide) ?_
  refine lv_istore_n (lv' := [(1, .int (0 : Int32)), (0, .ref (a 0))]) hx hb dX8_rings_1 rfl hl (by decide) rfl (fun ls hl => ?_)
  refine lv_iconst (v := (0)) hx hb dX8_rings_2 (by decide) ?_
  refine lv_istore_n (lv' := [(2, .int (0 : Int32)), (1, .int (0 : Int32)), (0, .ref (a 0))]) hx hb dX8_rings_3 rfl hl (by decide) rfl (fun ls hl => ?_)
  obtain ⟨zn, h⟩ := h
  exact w_4  zn asked reach (0 : Int32) (0 : Int32) h _ _ hP hD hS ls (lv_sub hl [2, 1, 0] rfl)

-- IronedQuarrelsModel.away()I
def wb_X8_away_5 (now : Nat → Int32) (post : Int32 → (Int32) → (Nat → Int32) → Prop) (K5 : (Int32) → (Nat → Int32) → (Int32) → (Int32) → Prop) (asked : Int32) (reach : Nat → Int32) (x1 : Int32) (x2 : Int32) : Prop :=
  ((64 : Int32) ≤ x2 → (wp_X8_bits x1 (fun r1 => wp_X8_answer r1 x1 (fun r2 asked_3 => post r2 asked_3 reach)))) ∧ (¬ (64 : Int32) ≤ x2 → (wp_X8_bits x2 (fun r4 => wp_X8_bits x1 (fun r5 => (r5 ≤ r4 → (K5 asked reach x1 (x2 + 1))) ∧ (¬ r5 ≤ r4 → (wp_X8_ringed now reach x2 (fun r6 reach_7 => (¬ r6 = 0 → (K5 asked reach_7 x1 (x2 + 1))) ∧ (r6 = 0 → (K5 asked reach_7 x2 (x2 + 1))))))))))
def wl_X8_away_5 (now : Nat → Int32) (post : Int32 → (Int32) → (Nat → Int32) → Prop) : Nat → (Int32) → (Nat → Int32) → (Int32) → (Int32) → Prop
  | 0 => fun _ _ _ _ => False
  | zn + 1 => wb_X8_away_5 now post (wl_X8_away_5 now post zn)
def wp_X8_away (now : Nat → Int32) (asked : Int32) (reach : Nat → Int32) (post : Int32 → (Int32) → (Nat → Int32) → Prop) : Prop :=
  ∃ zn, wl_X8_away_5 now post zn asked reach (63 : Int32) (0 : Int32)
def rm_X8_away : Room := { frames := 3, cells := 0, slots := 0, locals := 68 }
theorem hi_X8_away_X8 : ∀ w ∈ wsX80, w ∈ wsX8_away := fun w h => List.mem_cons_of_mem _ (List.mem_append_right _ h)
set_option maxHeartbeats 4000000 in
set_option maxRecDepth 100000 in
theorem c_X8_away (l : Launch) (D : va_G) (ca : Nat → ClassId) (a : Nat → Nat) (rowSizes : Nat → Int32) (rows : Nat → Int32) (textSizes : Nat → Int32) (texts : Nat → Int32) (now : Nat → Int32) (keeps : Nat → Int32) (kept : Nat → Int32) (asked : Int32) (upper : Int64) (lower : Int64) (finding : Int32) (findings : Nat → Int32) (read : Nat → Int32) (at_ : Int32) (costs : Nat → Int32) (ways : Nat → Int64) (reach : Nat → Int32)  (post : Int32 → (Int32) → (Nat → Int32) → Prop) (hd : va_D (fun _ => True) (W_X8 ca a rowSizes rows textSizes texts now keeps kept asked upper lower finding findings read at_ costs ways reach)) (h : wp_X8_away now asked reach post) : Met l yX8_away wsX8_away rm_X8_away (PcX D ca [.ref (a 0)] (W_X8 ca a rowSizes rows textSizes texts now keeps kept asked upper lower finding findings read at_ costs ways reach)) (wrI (S := (Int32) × (Nat → Int32)) D (W_X8 ca a rowSizes rows textSizes texts now keeps kept asked upper lower finding findings read at_ costs ways reach) (fun zu => W_X8 ca a rowSizes rows textSizes texts now keeps kept zu.1 upper lower finding findings read at_ costs ways zu.2) (fun zr zu => post zr zu.1 zu.2)) 0 0 (adr (W_X8 ca a rowSizes rows textSizes texts now keeps kept asked upper lower finding findings read at_ costs ways reach)) := by
  refine Met.ofW (cc := cX8_away) (maxL := 3) (ret := (some .int)) (by decide) rfl ?_
  intro zp ze zs zm za zb zt zc z1 B hml hv
  obtain ⟨rfl, hP, hK⟩ := hv
  have hx := B.exec
  have hb := B.bytes
  have hr := B.returns
  have hts := atoms_spec (ws := wsX8_away) B.pre
  have hown : zs.vm.findClass RX8 = some zm.cls := findClass_of_methodNamed B.named
  have hlocks := B.notSynchronized
  have hD : va_D (adr (W_X8 ca a rowSizes rows textSizes texts now keeps kept asked upper lower finding findings read at_ costs ways reach)) (W_X8 ca a rowSizes rows textSizes texts now keeps kept asked upper lower finding findings read at_ costs ways reach) := hd.adr
  have hS : va_S (adr (W_X8 ca a rowSizes rows textSizes texts now keeps kept asked upper lower finding findings read at_ costs ways reach)) zs.heap zs.heap [] := va_S.rf
  have hl := lv_entry ([.ref (a 0)]) (n := 3) (Nat.le_of_ble_eq_true rfl)
  rw [lg_entry_eq]
  generalize (lg_sl ([.ref (a 0)]) ++ List.replicate (3 - (lg_sl ([.ref (a 0)])).length) Slot.unset).toArray = ls at hl ⊢
  replace hl : lv_has ls 3 [(0, .ref (a 0))] := hl
  show W zp l ze rm_X8_away zs zm ([.ref (a 0)] : List Value).toArray zb zt zc zs.heap [] 0 0 (MQ zb (wrI (S := (Int32) × (Nat → Int32)) D (W_X8 ca a rowSizes rows textSizes texts now keeps kept asked upper lower finding findings read at_ costs ways reach) (fun zu => W_X8 ca a rowSizes rows textSizes texts now keeps kept zu.1 upper lower finding findings read at_ costs ways zu.2) (fun zr zu => post zr zu.1 zu.2)) ([.ref (a 0)] : List Value).toArray zs 0 0 (adr (W_X8 ca a rowSizes rows textSizes texts now keeps kept asked upper lower finding findings read at_ costs ways reach))) (F0 zm 0 ls [])
  have w_5 : ∀ (zn : Nat) (asked : Int32) (reach : Nat → Int32) (x1 : Int32) (x2 : Int32), wl_X8_away_5 now post zn asked reach x1 x2 → ∀ (H : Heap) (locs : List Loc), va_P D vwCl (W_X8 ca a rowSizes rows textSizes texts now keeps kept asked upper lower finding findings read at_ costs ways reach) H → va_D (adr (W_X8 ca a rowSizes rows textSizes texts now keeps kept asked upper lower finding findings read at_ costs ways reach)) (W_X8 ca a rowSizes rows textSizes texts now keeps kept asked upper lower finding findings read at_ costs ways reach) → va_S (adr (W_X8 ca a rowSizes rows textSizes texts now keeps kept asked upper lower finding findings read at_ costs ways reach)) zs.heap H locs → ∀ ls : Array Slot, lv_has ls 3 [(0, .ref (a 0)), (1, .int x1), (2, .int x2)] → W zp l ze rm_X8_away zs zm ([.ref (a 0)] : List Value).toArray zb zt zc H locs 0 0 (MQ zb (wrI (S := (Int32) × (Nat → Int32)) D (W_X8 ca a rowSizes rows textSizes texts now keeps kept asked upper lower finding findings read at_ costs ways reach) (fun zu => W_X8 ca a rowSizes rows textSizes texts now keeps kept zu.1 upper lower finding findings read at_ costs ways zu.2) (fun zr zu => post zr zu.1 zu.2)) ([.ref (a 0)] : List Value).toArray zs 0 0 (adr (W_X8 ca a rowSizes rows textSizes texts now keeps kept asked upper lower finding findings read at_ costs ways reach))) (F0 zm 5 ls []) := by
    intro zn
    induction zn with
    | zero => intro asked reach x1 x2 h; exact h.elim
    | succ zn ih5 =>
      intro asked reach x1 x2 h H locs hP hD hS ls hl
      replace h : wb_X8_away_5 now post (wl_X8_away_5 now post zn) asked reach x1 x2 := h
      unfold wb_X8_away_5 at h
      refine lv_iload_n hx hb dX8_away_5 rfl (lv_at hl 2 rfl) ?_
      refine lv_bipush (v := (64)) hx hb dX8_away_6 (by decide) ?_
      refine lv_icmp_ge (tgt := 42) hx hb dX8_away_8 (by decide) (fun hc => ?_) (fun hc => ?_)
      · have h := h.1 hc
        refine lv_aload_n hx hb dX8_away_42 rfl (lv_at hl 0 rfl) ?_
        refine lv_iload_n hx hb dX8_away_43 rfl (lv_at hl 1 rfl) ?_
        refine rd_calli (va_runS (As := [.int x1]) (rest := [.ref (a 0)]) ⟨hx, hb, hml, hown, hts⟩ (c_X8_bits l D ca   x1 _ h) (va_cwS 1 hts gX8_away_X8_bits rfl rfl rfl (by decide +kernel) ⟨Nat.le_of_ble_eq_true rfl, Nat.le_of_ble_eq_true rfl⟩) (PcX.preS hK (fun zk zq zh => by simp at zh)) rfl rfl hl.1 rfl (lv_room (Nat.le_of_ble_eq_true rfl)) dX8_away_44 ⟨Nat.le_of_ble_eq_true rfl, Nat.le_of_ble_eq_true rfl⟩) (fun r1 h => ?_)
        try dsimp only at h
        refine lv_iload_n hx hb dX8_away_47 rfl (lv_at hl 1 rfl) ?_
        refine wr_calli (ws1 := fun zu => W_X8 ca a rowSizes rows textSizes texts now keeps kept zu upper lower finding findings read at_ costs ways reach) (wr := ([] : List Nat).filterMap (fun zi => (W_X8 ca a rowSizes rows textSizes texts now keeps kept asked upper lower finding findings read at_ costs ways reach : va_W)[zi]?)) (n := 13) (va_runV (As := [.int r1, .int x1]) (rest := []) ⟨hx, hb, hml, hown, hts⟩ (c_X8_answer l D ca a rowSizes rows textSizes texts now keeps kept asked upper lower finding findings read at_ costs ways reach r1 x1 _ (hD.subM [0, 1, 2, 3, 4, 5, 6, 7, 8, 9, 10, 11, 12] (by decide) rfl) h) (cwV 2 hts gX8_away_X8_answer rfl rfl rfl (by decide +kernel) ⟨Nat.le_of_ble_eq_true rfl, Nat.le_of_ble_eq_true rfl⟩) (PcX.preV (q := (RX8, TX8, 17)) (ci := 7) (q0 := 0) hK hP rfl rfl hP) rfl rfl hl.1 rfl (lv_room (Nat.le_of_ble_eq_true rfl)) dX8_away_48 ⟨Nat.le_of_ble_eq_true rfl, Nat.le_of_ble_eq_true rfl⟩) hP hD hS [0, 1, 2, 3, 4, 5, 6, 7, 8, 9, 10, 11, 12] [] rfl (fun _ => rfl) rfl (fun _ => rfl) (fun _ => rfl) (fun _ => rfl) (by decide +kernel) (by decide +kernel) (fun r2 zu H locs h hP hD hS => ?_)
        obtain ⟨asked_3, rfl⟩ : ∃ zz, zz = zu := ⟨zu, rfl⟩
        have hP : va_P D vwCl (W_X8 ca a rowSizes rows textSizes texts now keeps kept asked_3 upper lower finding findings read at_ costs ways reach) H := hP
        have hD : va_D _ (W_X8 ca a rowSizes rows textSizes texts now keeps kept asked_3 upper lower finding findings read at_ costs ways reach) := hD
        try dsimp only at h
        exact W.iret (v := r2) hx hb hr (fun zt ht hW => ⟨⟨r2, (asked_3, reach), rfl, h, by rw [ht]; exact hP⟩, hS.F ht⟩) hS.2.2 dX8_away_51
      · have h := h.2 hc
        refine lv_iload_n hx hb dX8_away_11 rfl (lv_at hl 2 rfl) ?_
        refine rd_calli (va_runS (As := [.int x2]) (rest := []) ⟨hx, hb, hml, hown, hts⟩ (c_X8_bits l D ca   x2 _ h) (va_cwS 1 hts gX8_away_X8_bits rfl rfl rfl (by decide +kernel) ⟨Nat.le_of_ble_eq_true rfl, Nat.le_of_ble_eq_true rfl⟩) (PcX.preS hK (fun zk zq zh => by simp at zh)) rfl rfl hl.1 rfl (lv_room (Nat.le_of_ble_eq_true rfl)) dX8_away_12 ⟨Nat.le_of_ble_eq_true rfl, Nat.le_of_ble_eq_true rfl⟩) (fun r4 h => ?_)
        try dsimp only at h
        refine lv_iload_n hx hb dX8_away_15 rfl (lv_at hl 1 rfl) ?_
        refine rd_calli (va_runS (As := [.int x1]) (rest := [.int r4]) ⟨hx, hb, hml, hown, hts⟩ (c_X8_bits l D ca   x1 _ h) (va_cwS 1 hts gX8_away_X8_bits rfl rfl rfl (by decide +kernel) ⟨Nat.le_of_ble_eq_true rfl, Nat.le_of_ble_eq_true rfl⟩) (PcX.preS hK (fun zk zq zh => by simp at zh)) rfl rfl hl.1 rfl (lv_room (Nat.le_of_ble_eq_true rfl)) dX8_away_16 ⟨Nat.le_of_ble_eq_true rfl, Nat.le_of_ble_eq_true rfl⟩) (fun r5 h => ?_)
        try dsimp only at h
        refine lv_icmp_ge (tgt := 34) hx hb dX8_away_19 (by decide) (fun hc => ?_) (fun hc => ?_)
        · have h := h.1 hc
          refine lv_iload_n hx hb dX8_away_34 rfl (lv_at hl 1 rfl) ?_
          refine lv_istore_n (lv' := [(1, .int x1), (0, .ref (a 0)), (2, .int x2)]) hx hb dX8_away_35 rfl hl (by decide) rfl (fun ls hl => ?_)
          refine lv_iinc (v := x2 + 1) (lv' := [(2, .int (x2 + 1)), (1, .int x1), (0, .ref (a 0))]) hx hb dX8_away_36 hl (k := 2) rfl rfl (by decide) rfl (fun ls hl => ?_)
          refine lv_goto (tgt := 5) hx hb dX8_away_39 (by decide) ?_
          exact ih5 asked reach x1 (x2 + 1) h _ _ hP hD hS ls (lv_sub hl [2, 1, 0] rfl)
        · have h := h.2 hc
          refine lv_aload_n hx hb dX8_away_22 rfl (lv_at hl 0 rfl) ?_
          refine lv_iload_n hx hb dX8_away_23 rfl (lv_at hl 2 rfl) ?_
          refine wr_calli (ws1 := fun zu => W_X8 ca a rowSizes rows textSizes texts now keeps kept asked upper lower finding findings read at_ costs ways zu) (wr := ([] : List Nat).filterMap (fun zi => (W_X8 ca a rowSizes rows textSizes texts now keeps kept asked upper lower finding findings read at_ costs ways reach : va_W)[zi]?)) (n := 13) (va_runV (As := [.int x2]) (rest := []) ⟨hx, hb, hml, hown, hts⟩ (c_X8_ringed l D ca a rowSizes rows textSizes texts now keeps kept asked upper lower finding findings read at_ costs ways reach x2 _ (hD.subM [0, 1, 2, 3, 4, 5, 6, 7, 8, 9, 10, 11, 12] (by decide) rfl) h) (cwV 1 hts gX8_away_X8_ringed rfl rfl rfl (by decide +kernel) ⟨Nat.le_of_ble_eq_true rfl, Nat.le_of_ble_eq_true rfl⟩) (PcX.preV (q := (RX8, TX8, 17)) (ci := 7) (q0 := 0) hK hP rfl rfl hP) rfl rfl hl.1 rfl (lv_room (Nat.le_of_ble_eq_true rfl)) dX8_away_24 ⟨Nat.le_of_ble_eq_true rfl, Nat.le_of_ble_eq_true rfl⟩) hP hD hS [0, 1, 2, 3, 4, 5, 6, 7, 8, 9, 10, 11, 12] [] rfl (fun _ => rfl) rfl (fun _ => rfl) (fun _ => rfl) (fun _ => rfl) (by decide +kernel) (by decide +kernel) (fun r6 zu H locs h hP hD hS => ?_)
          obtain ⟨reach_7, rfl⟩ : ∃ zz, zz = zu := ⟨zu, rfl⟩
          have hP : va_P D vwCl (W_X8 ca a rowSizes rows textSizes texts now keeps kept asked upper lower finding findings read at_ costs ways reach_7) H := hP
          have hD : va_D _ (W_X8 ca a rowSizes rows textSizes texts now keeps kept asked upper lower finding findings read at_ costs ways reach_7) := hD
          try dsimp only at h
          refine lv_if_ne (tgt := 34) hx hb dX8_away_27 (by decide) (fun hc => ?_) (fun hc => ?_)
          · have h := h.1 hc
            refine lv_iload_n hx hb dX8_away_34 rfl (lv_at hl 1 rfl) ?_
            refine lv_istore_n (lv' := [(1, .int x1), (0, .ref (a 0)), (2, .int x2)]) hx hb dX8_away_35 rfl hl (by decide) rfl (fun ls hl => ?_)
            refine lv_iinc (v := x2 + 1) (lv' := [(2, .int (x2 + 1)), (1, .int x1), (0, .ref (a 0))]) hx hb dX8_away_36 hl (k := 2) rfl rfl (by decide) rfl (fun ls hl => ?_)
            refine lv_goto (tgt := 5) hx hb dX8_away_39 (by decide) ?_
            exact ih5 asked reach_7 x1 (x2 + 1) h _ _ hP hD hS ls (lv_sub hl [2, 1, 0] rfl)
          · have h := h.2 hc
            refine lv_iload_n hx hb dX8_away_30 rfl (lv_at hl 2 rfl) ?_
            refine lv_goto (tgt := 35) hx hb dX8_away_31 (by decide) ?_
            refine lv_istore_n (lv' := [(1, .int x2), (0, .ref (a 0)), (2, .int x2)]) hx hb dX8_away_35 rfl hl (by decide) rfl (fun ls hl => ?_)
            refine lv_iinc (v := x2 + 1) (lv' := [(2, .int (x2 + 1)), (1, .int x2), (0, .ref (a 0))]) hx hb dX8_away_36 hl (k := 2) rfl rfl (by decide) rfl (fun ls hl => ?_)
            refine lv_goto (tgt := 5) hx hb dX8_away_39 (by decide) ?_
            exact ih5 asked reach_7 x2 (x2 + 1) h _ _ hP hD hS ls (lv_sub hl [2, 1, 0] rfl)
  unfold wp_X8_away at h
  refine lv_bipush (v := (63)) hx hb dX8_away_0 (by decide) ?_
  refine lv_istore_n (lv' := [(1, .int (63 : Int32)), (0, .ref (a 0))]) hx hb dX8_away_2 rfl hl (by decide) rfl (fun ls hl => ?_)
  refine lv_iconst (v := (0)) hx hb dX8_away_3 (by decide) ?_
  refine lv_istore_n (lv' := [(2, .int (0 : Int32)), (1, .int (63 : Int32)), (0, .ref (a 0))]) hx hb dX8_away_4 rfl hl (by decide) rfl (fun ls hl => ?_)
  obtain ⟨zn, h⟩ := h
  exact w_5  zn asked reach (63 : Int32) (0 : Int32) h _ _ hP hD hS ls (lv_sub hl [2, 1, 0] rfl)

-- IronedQuarrelsModel.whose(I)I
def wp_X8_whose (now : Nat → Int32) (finding : Int32) (findings : Nat → Int32) (i : Int32) (post : Int32 → (Int32) → (Nat → Int32) → Prop) : Prop :=
  wp_X8_isSaying now i (fun r1 => (¬ r1 = 0 → (vp_in ((3 : Int32) + i) 115 ∧ (¬ (now ((3 : Int32) + i).toNatClampNeg) = (2 : Int32) → (wp_X8_found findings (3 : Int32) (fun r2 finding_3 findings_4 => post r2 finding_3 findings_4))) ∧ ((now ((3 : Int32) + i).toNatClampNeg) = (2 : Int32) → (wp_X8_handsOf now i (fun r5 => post r5 finding findings))))) ∧ (r1 = 0 → (post (-1 : Int32) finding findings)))
def rm_X8_whose : Room := { frames := 2, cells := 0, slots := 0, locals := 46 }
theorem k_X8_whose_1 : Cond.fieldLink RX8 22 "IronedQuarrelsModel" "now" "[I" ∈ wsX8_whose := List.mem_of_getElem? (i := 1) (by decide +kernel)
theorem hi_X8_whose_X8 : ∀ w ∈ wsX80, w ∈ wsX8_whose := fun w h => List.mem_cons_of_mem _ (List.mem_append_right _ h)
set_option maxHeartbeats 4000000 in
set_option maxRecDepth 100000 in
theorem c_X8_whose (l : Launch) (D : va_G) (ca : Nat → ClassId) (a : Nat → Nat) (rowSizes : Nat → Int32) (rows : Nat → Int32) (textSizes : Nat → Int32) (texts : Nat → Int32) (now : Nat → Int32) (keeps : Nat → Int32) (kept : Nat → Int32) (asked : Int32) (upper : Int64) (lower : Int64) (finding : Int32) (findings : Nat → Int32) (read : Nat → Int32) (at_ : Int32) (costs : Nat → Int32) (ways : Nat → Int64) (reach : Nat → Int32) (i : Int32) (post : Int32 → (Int32) → (Nat → Int32) → Prop) (hd : va_D (fun _ => True) (W_X8 ca a rowSizes rows textSizes texts now keeps kept asked upper lower finding findings read at_ costs ways reach)) (h : wp_X8_whose now finding findings i post) : Met l yX8_whose wsX8_whose rm_X8_whose (PcX D ca [.ref (a 0), .int i] (W_X8 ca a rowSizes rows textSizes texts now keeps kept asked upper lower finding findings read at_ costs ways reach)) (wrI (S := (Int32) × (Nat → Int32)) D (W_X8 ca a rowSizes rows textSizes texts now keeps kept asked upper lower finding findings read at_ costs ways reach) (fun zu => W_X8 ca a rowSizes rows textSizes texts now keeps kept asked upper lower zu.1 zu.2 read at_ costs ways reach) (fun zr zu => post zr zu.1 zu.2)) 0 0 (adr (W_X8 ca a rowSizes rows textSizes texts now keeps kept asked upper lower finding findings read at_ costs ways reach)) := by
  refine Met.ofW (cc := cX8_whose) (maxL := 2) (ret := (some .int)) (by decide) rfl ?_
  intro zp ze zs zm za zb zt zc z1 B hml hv
  obtain ⟨rfl, hP, hK⟩ := hv
  have hx := B.exec
  have hb := B.bytes
  have hr := B.returns
  have hts := atoms_spec (ws := wsX8_whose) B.pre
  have hown : zs.vm.findClass RX8 = some zm.cls := findClass_of_methodNamed B.named
  have hlocks := B.notSynchronized
  have hD : va_D (adr (W_X8 ca a rowSizes rows textSizes texts now keeps kept asked upper lower finding findings read at_ costs ways reach)) (W_X8 ca a rowSizes rows textSizes texts now keeps kept asked upper lower finding findings read at_ costs ways reach) := hd.adr
  have hS : va_S (adr (W_X8 ca a rowSizes rows textSizes texts now keeps kept asked upper lower finding findings read at_ costs ways reach)) zs.heap zs.heap [] := va_S.rf
  have hl := lv_entry ([.ref (a 0), .int i]) (n := 2) (Nat.le_of_ble_eq_true rfl)
  rw [lg_entry_eq]
  generalize (lg_sl ([.ref (a 0), .int i]) ++ List.replicate (2 - (lg_sl ([.ref (a 0), .int i])).length) Slot.unset).toArray = ls at hl ⊢
  replace hl : lv_has ls 2 [(0, .ref (a 0)), (1, .int i)] := hl
  show W zp l ze rm_X8_whose zs zm ([.ref (a 0), .int i] : List Value).toArray zb zt zc zs.heap [] 0 0 (MQ zb (wrI (S := (Int32) × (Nat → Int32)) D (W_X8 ca a rowSizes rows textSizes texts now keeps kept asked upper lower finding findings read at_ costs ways reach) (fun zu => W_X8 ca a rowSizes rows textSizes texts now keeps kept asked upper lower zu.1 zu.2 read at_ costs ways reach) (fun zr zu => post zr zu.1 zu.2)) ([.ref (a 0), .int i] : List Value).toArray zs 0 0 (adr (W_X8 ca a rowSizes rows textSizes texts now keeps kept asked upper lower finding findings read at_ costs ways reach))) (F0 zm 0 ls [])
  unfold wp_X8_whose at h
  refine lv_aload_n hx hb dX8_whose_0 rfl (lv_at hl 0 rfl) ?_
  refine lv_iload_n hx hb dX8_whose_1 rfl (lv_at hl 1 rfl) ?_
  refine rd_callz (va_runV (As := [.int i]) (rest := []) ⟨hx, hb, hml, hown, hts⟩ (c_X8_isSaying l D ca a rowSizes rows textSizes texts now keeps kept asked upper lower finding findings read at_ costs ways reach i _ h) (cwV 1 hts gX8_whose_X8_isSaying rfl rfl rfl (by decide +kernel) ⟨Nat.le_of_ble_eq_true rfl, Nat.le_of_ble_eq_true rfl⟩) (PcX.preV (q := (RX8, TX8, 17)) (ci := 7) (q0 := 0) hK hP rfl rfl hP) rfl rfl hl.1 rfl (lv_room (Nat.le_of_ble_eq_true rfl)) dX8_whose_2 ⟨Nat.le_of_ble_eq_true rfl, Nat.le_of_ble_eq_true rfl⟩) (fun r1 h hz_r1 => ?_)
  try dsimp only at h
  refine lv_if_ne (tgt := 10) hx hb dX8_whose_5 (by decide) (fun hc => ?_) (fun hc => ?_)
  · have h := h.1 hc
    refine lv_aload_n hx hb dX8_whose_10 rfl (lv_at hl 0 rfl) ?_
    refine va_get (D := D) (ci := 7) (v := .ref (a 5)) (C := RX8) (T := TX8) (N := 17) hx hb hts hi_X8_whose_X8 hown hK.1 hP 0 rfl rfl 4 (by decide) (hts _ k_X8_whose_1) (fun _ h9 => h9) rfl dX8_whose_11 ?_
    refine lv_iconst (v := (3)) hx hb dX8_whose_14 (by decide) ?_
    refine lv_iload_n hx hb dX8_whose_15 rfl (lv_at hl 1 rfl) ?_
    refine lv_iadd hx hb dX8_whose_16 ?_
    obtain ⟨hi, h⟩ := h
    refine x_iald (v := now ((3 : Int32) + i).toNatClampNeg) hx hb hK hP 5 rfl hi rfl dX8_whose_17 ?_
    refine lv_iconst (v := (2)) hx hb dX8_whose_18 (by decide) ?_
    refine lv_icmp_ne (tgt := 30) hx hb dX8_whose_19 (by decide) (fun hc => ?_) (fun hc => ?_)
    · have h := h.1 hc
      refine lv_aload_n hx hb dX8_whose_30 rfl (lv_at hl 0 rfl) ?_
      refine lv_iconst (v := (3)) hx hb dX8_whose_31 (by decide) ?_
      refine wr_calli (ws1 := fun zu => W_X8 ca a rowSizes rows textSizes texts now keeps kept asked upper lower zu.1 zu.2 read at_ costs ways reach) (wr := ([] : List Nat).filterMap (fun zi => (W_X8 ca a rowSizes rows textSizes texts now keeps kept asked upper lower finding findings read at_ costs ways reach : va_W)[zi]?)) (n := 13) (va_runV (As := [.int (3 : Int32)]) (rest := []) ⟨hx, hb, hml, hown, hts⟩ (c_X8_found l D ca a rowSizes rows textSizes texts now keeps kept asked upper lower finding findings read at_ costs ways reach (3 : Int32) _ (hD.subM [0, 1, 2, 3, 4, 5, 6, 7, 8, 9, 10, 11, 12] (by decide) rfl) h) (cwV 1 hts gX8_whose_X8_found rfl rfl rfl (by decide +kernel) ⟨Nat.le_of_ble_eq_true rfl, Nat.le_of_ble_eq_true rfl⟩) (PcX.preV (q := (RX8, TX8, 17)) (ci := 7) (q0 := 0) hK hP rfl rfl hP) rfl rfl hl.1 rfl (lv_room (Nat.le_of_ble_eq_true rfl)) dX8_whose_32 ⟨Nat.le_of_ble_eq_true rfl, Nat.le_of_ble_eq_true rfl⟩) hP hD hS [0, 1, 2, 3, 4, 5, 6, 7, 8, 9, 10, 11, 12] [] rfl (fun _ => rfl) rfl (fun _ => rfl) (fun _ => rfl) (fun _ => rfl) (by decide +kernel) (by decide +kernel) (fun r2 zu H locs h hP hD hS => ?_)
      obtain ⟨finding_3, findings_4⟩ := zu
      have hP : va_P D vwCl (W_X8 ca a rowSizes rows textSizes texts now keeps kept asked upper lower finding_3 findings_4 read at_ costs ways reach) H := hP
      have hD : va_D _ (W_X8 ca a rowSizes rows textSizes texts now keeps kept asked upper lower finding_3 findings_4 read at_ costs ways reach) := hD
      try dsimp only at h
      exact W.iret (v := r2) hx hb hr (fun zt ht hW => ⟨⟨r2, (finding_3, findings_4), rfl, h, by rw [ht]; exact hP⟩, hS.F ht⟩) hS.2.2 dX8_whose_35
    · have h := h.2 hc
      refine lv_aload_n hx hb dX8_whose_22 rfl (lv_at hl 0 rfl) ?_
      refine lv_iload_n hx hb dX8_whose_23 rfl (lv_at hl 1 rfl) ?_
      refine rd_calli (va_runV (As := [.int i]) (rest := []) ⟨hx, hb, hml, hown, hts⟩ (c_X8_handsOf l D ca a rowSizes rows textSizes texts now keeps kept asked upper lower finding findings read at_ costs ways reach i _ h) (cwV 1 hts gX8_whose_X8_handsOf rfl rfl rfl (by decide +kernel) ⟨Nat.le_of_ble_eq_true rfl, Nat.le_of_ble_eq_true rfl⟩) (PcX.preV (q := (RX8, TX8, 17)) (ci := 7) (q0 := 0) hK hP rfl rfl hP) rfl rfl hl.1 rfl (lv_room (Nat.le_of_ble_eq_true rfl)) dX8_whose_24 ⟨Nat.le_of_ble_eq_true rfl, Nat.le_of_ble_eq_true rfl⟩) (fun r5 h => ?_)
      try dsimp only at h
      refine lv_goto (tgt := 35) hx hb dX8_whose_27 (by decide) ?_
      exact W.iret (v := r5) hx hb hr (fun zt ht hW => ⟨⟨r5, (finding, findings), rfl, h, by rw [ht]; exact hP⟩, hS.F ht⟩) hS.2.2 dX8_whose_35
  · have h := h.2 hc
    refine lv_iconst (v := (-1)) hx hb dX8_whose_8 (by decide) ?_
    exact W.iret (v := (-1 : Int32)) hx hb hr (fun zt ht hW => ⟨⟨(-1 : Int32), (finding, findings), rfl, h, by rw [ht]; exact hP⟩, hS.F ht⟩) hS.2.2 dX8_whose_9

-- IronedQuarrelsModel.firsts(II)I
def wb_X8_firsts_5 (now : Nat → Int32) (p : Int32) (q : Int32) (post : Int32 → Prop) (K5 : (Int32) → (Int32) → Prop) (x3 : Int32) (x4 : Int32) : Prop :=
  ((now 0) ≤ x4 → (post x3)) ∧ (¬ (now 0) ≤ x4 → (vp_in ((63 : Int32) + x4) 115 ∧ (¬ (now ((63 : Int32) + x4).toNatClampNeg) = (-9 : Int32) → (K5 (x3 + (0 : Int32)) (x4 + 1))) ∧ ((now ((63 : Int32) + x4).toNatClampNeg) = (-9 : Int32) → (wp_X8_has (now 2) x4 (fun r1 => (r1 = 0 → (K5 (x3 + (0 : Int32)) (x4 + 1))) ∧ (¬ r1 = 0 → (vp_in ((15 : Int32) + x4) 115 ∧ (¬ (now ((15 : Int32) + x4).toNatClampNeg) = p → (K5 (x3 + (0 : Int32)) (x4 + 1))) ∧ ((now ((15 : Int32) + x4).toNatClampNeg) = p → (vp_in ((27 : Int32) + x4) 115 ∧ (¬ (now ((27 : Int32) + x4).toNatClampNeg) = q → (K5 (x3 + (0 : Int32)) (x4 + 1))) ∧ ((now ((27 : Int32) + x4).toNatClampNeg) = q → (K5 (x3 + (1 : Int32)) (x4 + 1))))))))))))
def wl_X8_firsts_5 (now : Nat → Int32) (p : Int32) (q : Int32) (post : Int32 → Prop) : Nat → (Int32) → (Int32) → Prop
  | 0 => fun _ _ => False
  | zn + 1 => wb_X8_firsts_5 now p q post (wl_X8_firsts_5 now p q post zn)
def wp_X8_firsts (now : Nat → Int32) (p : Int32) (q : Int32) (post : Int32 → Prop) : Prop :=
  ∃ zn, wl_X8_firsts_5 now p q post zn (0 : Int32) (0 : Int32)
def rm_X8_firsts : Room := { frames := 1, cells := 0, slots := 0, locals := 21 }
theorem k_X8_firsts_1 : Cond.fieldLink RX8 22 "IronedQuarrelsModel" "now" "[I" ∈ wsX8_firsts := List.mem_of_getElem? (i := 1) (by decide +kernel)
theorem hi_X8_firsts_X8 : ∀ w ∈ wsX80, w ∈ wsX8_firsts := fun w h => List.mem_cons_of_mem _ (List.mem_append_right _ h)
set_option maxHeartbeats 4000000 in
set_option maxRecDepth 100000 in
theorem c_X8_firsts (l : Launch) (D : va_G) (ca : Nat → ClassId) (a : Nat → Nat) (rowSizes : Nat → Int32) (rows : Nat → Int32) (textSizes : Nat → Int32) (texts : Nat → Int32) (now : Nat → Int32) (keeps : Nat → Int32) (kept : Nat → Int32) (asked : Int32) (upper : Int64) (lower : Int64) (finding : Int32) (findings : Nat → Int32) (read : Nat → Int32) (at_ : Int32) (costs : Nat → Int32) (ways : Nat → Int64) (reach : Nat → Int32) (p : Int32) (q : Int32) (post : Int32 → Prop) (h : wp_X8_firsts now p q post) : Met l yX8_firsts wsX8_firsts rm_X8_firsts (PcX D ca [.ref (a 0), .int p, .int q] (W_X8 ca a rowSizes rows textSizes texts now keeps kept asked upper lower finding findings read at_ costs ways reach)) (rdI post) 0 0 (fun _ => False) := by
  refine Met.ofW (cc := cX8_firsts) (maxL := 5) (ret := (some .int)) (by decide) rfl ?_
  intro zp ze zs zm za zb zt zc z1 B hml hv
  obtain ⟨rfl, hP, hK⟩ := hv
  have hx := B.exec
  have hb := B.bytes
  have hr := B.returns
  have hts := atoms_spec (ws := wsX8_firsts) B.pre
  have hown : zs.vm.findClass RX8 = some zm.cls := findClass_of_methodNamed B.named
  have hlocks := B.notSynchronized
  have hl := lv_entry ([.ref (a 0), .int p, .int q]) (n := 5) (Nat.le_of_ble_eq_true rfl)
  rw [lg_entry_eq]
  generalize (lg_sl ([.ref (a 0), .int p, .int q]) ++ List.replicate (5 - (lg_sl ([.ref (a 0), .int p, .int q])).length) Slot.unset).toArray = ls at hl ⊢
  replace hl : lv_has ls 5 [(0, .ref (a 0)), (1, .int p), (2, .int q)] := hl
  show W zp l ze rm_X8_firsts zs zm ([.ref (a 0), .int p, .int q] : List Value).toArray zb zt zc zs.heap [] 0 0 (MQ zb (rdI post) ([.ref (a 0), .int p, .int q] : List Value).toArray zs 0 0 (fun _ => False)) (F0 zm 0 ls [])
  have w_5 : ∀ (zn : Nat) (x3 : Int32) (x4 : Int32), wl_X8_firsts_5 now p q post zn x3 x4 → ∀ ls : Array Slot, lv_has ls 5 [(0, .ref (a 0)), (1, .int p), (2, .int q), (3, .int x3), (4, .int x4)] → W zp l ze rm_X8_firsts zs zm ([.ref (a 0), .int p, .int q] : List Value).toArray zb zt zc zs.heap [] 0 0 (MQ zb (rdI post) ([.ref (a 0), .int p, .int q] : List Value).toArray zs 0 0 (fun _ => False)) (F0 zm 5 ls []) := by
    intro zn
    induction zn with
    | zero => intro x3 x4 h; exact h.elim
    | succ zn ih5 =>
      intro x3 x4 h ls hl
      replace h : wb_X8_firsts_5 now p q post (wl_X8_firsts_5 now p q post zn) x3 x4 := h
      unfold wb_X8_firsts_5 at h
      refine lv_iload hx hb dX8_firsts_5 (lv_at hl 4 rfl) ?_
      refine lv_aload_n hx hb dX8_firsts_7 rfl (lv_at hl 0 rfl) ?_
      refine va_get (D := D) (ci := 7) (v := .ref (a 5)) (C := RX8) (T := TX8) (N := 17) hx hb hts hi_X8_firsts_X8 hown hK.1 hP 0 rfl rfl 4 (by decide) (hts _ k_X8_firsts_1) (fun _ h9 => h9) rfl dX8_firsts_8 ?_
      refine lv_iconst (v := (0)) hx hb dX8_firsts_11 (by decide) ?_
      refine x_iald (v := now 0) hx hb hK hP 5 rfl (vin_lit (by decide)) rfl dX8_firsts_12 ?_
      refine lv_icmp_ge (tgt := 87) hx hb dX8_firsts_13 (by decide) (fun hc => ?_) (fun hc => ?_)
      · have h := h.1 hc
        refine lv_iload_n hx hb dX8_firsts_87 rfl (lv_at hl 3 rfl) ?_
        exact W.iret (v := x3) hx hb hr (fun zt ht hW => ⟨x3, rfl, h, ht⟩) (fun zq hq => absurd hq List.not_mem_nil) dX8_firsts_88
      · have h := h.2 hc
        refine lv_iload_n hx hb dX8_firsts_16 rfl (lv_at hl 3 rfl) ?_
        refine lv_aload_n hx hb dX8_firsts_17 rfl (lv_at hl 0 rfl) ?_
        refine va_get (D := D) (ci := 7) (v := .ref (a 5)) (C := RX8) (T := TX8) (N := 17) hx hb hts hi_X8_firsts_X8 hown hK.1 hP 0 rfl rfl 4 (by decide) (hts _ k_X8_firsts_1) (fun _ h9 => h9) rfl dX8_firsts_18 ?_
        refine lv_bipush (v := (63)) hx hb dX8_firsts_21 (by decide) ?_
        refine lv_iload hx hb dX8_firsts_23 (lv_at hl 4 rfl) ?_
        refine lv_iadd hx hb dX8_firsts_25 ?_
        obtain ⟨hi, h⟩ := h
        refine x_iald (v := now ((63 : Int32) + x4).toNatClampNeg) hx hb hK hP 5 rfl hi rfl dX8_firsts_26 ?_
        refine lv_bipush (v := (-9)) hx hb dX8_firsts_27 (by decide) ?_
        refine lv_icmp_ne (tgt := 78) hx hb dX8_firsts_29 (by decide) (fun hc => ?_) (fun hc => ?_)
        · have h := h.1 hc
          refine lv_iconst (v := (0)) hx hb dX8_firsts_78 (by decide) ?_
          refine lv_iadd hx hb dX8_firsts_79 ?_
          refine lv_istore_n (lv' := [(3, .int (x3 + (0 : Int32))), (0, .ref (a 0)), (1, .int p), (2, .int q), (4, .int x4)]) hx hb dX8_firsts_80 rfl hl (by decide) rfl (fun ls hl => ?_)
          refine lv_iinc (v := x4 + 1) (lv' := [(4, .int (x4 + 1)), (3, .int (x3 + (0 : Int32))), (0, .ref (a 0)), (1, .int p), (2, .int q)]) hx hb dX8_firsts_81 hl (k := 4) rfl rfl (by decide) rfl (fun ls hl => ?_)
          refine lv_goto (tgt := 5) hx hb dX8_firsts_84 (by decide) ?_
          exact ih5 (x3 + (0 : Int32)) (x4 + 1) h ls (lv_sub hl [2, 3, 4, 1, 0] rfl)
        · have h := h.2 hc
          refine lv_aload_n hx hb dX8_firsts_32 rfl (lv_at hl 0 rfl) ?_
          refine va_get (D := D) (ci := 7) (v := .ref (a 5)) (C := RX8) (T := TX8) (N := 17) hx hb hts hi_X8_firsts_X8 hown hK.1 hP 0 rfl rfl 4 (by decide) (hts _ k_X8_firsts_1) (fun _ h9 => h9) rfl dX8_firsts_33 ?_
          refine lv_iconst (v := (2)) hx hb dX8_firsts_36 (by decide) ?_
          refine x_iald (v := now 2) hx hb hK hP 5 rfl (vin_lit (by decide)) rfl dX8_firsts_37 ?_
          refine lv_iload hx hb dX8_firsts_38 (lv_at hl 4 rfl) ?_
          refine rd_callz (va_runS (As := [.int (now 2), .int x4]) (rest := [.int x3]) ⟨hx, hb, hml, hown, hts⟩ (c_X8_has l D ca   (now 2) x4 _ h) (va_cwS 2 hts gX8_firsts_X8_has rfl rfl rfl (by decide +kernel) ⟨Nat.le_of_ble_eq_true rfl, Nat.le_of_ble_eq_true rfl⟩) (PcX.preS hK (fun zk zq zh => by simp at zh)) rfl rfl hl.1 rfl (lv_room (Nat.le_of_ble_eq_true rfl)) dX8_firsts_40 ⟨Nat.le_of_ble_eq_true rfl, Nat.le_of_ble_eq_true rfl⟩) (fun r1 h hz_r1 => ?_)
          try dsimp only at h
          refine lv_if_eq (tgt := 78) hx hb dX8_firsts_43 (by decide) (fun hc => ?_) (fun hc => ?_)
          · have h := h.1 hc
            refine lv_iconst (v := (0)) hx hb dX8_firsts_78 (by decide) ?_
            refine lv_iadd hx hb dX8_firsts_79 ?_
            refine lv_istore_n (lv' := [(3, .int (x3 + (0 : Int32))), (0, .ref (a 0)), (1, .int p), (2, .int q), (4, .int x4)]) hx hb dX8_firsts_80 rfl hl (by decide) rfl (fun ls hl => ?_)
            refine lv_iinc (v := x4 + 1) (lv' := [(4, .int (x4 + 1)), (3, .int (x3 + (0 : Int32))), (0, .ref (a 0)), (1, .int p), (2, .int q)]) hx hb dX8_firsts_81 hl (k := 4) rfl rfl (by decide) rfl (fun ls hl => ?_)
            refine lv_goto (tgt := 5) hx hb dX8_firsts_84 (by decide) ?_
            exact ih5 (x3 + (0 : Int32)) (x4 + 1) h ls (lv_sub hl [2, 3, 4, 1, 0] rfl)
          · have h := h.2 hc
            refine lv_aload_n hx hb dX8_firsts_46 rfl (lv_at hl 0 rfl) ?_
            refine va_get (D := D) (ci := 7) (v := .ref (a 5)) (C := RX8) (T := TX8) (N := 17) hx hb hts hi_X8_firsts_X8 hown hK.1 hP 0 rfl rfl 4 (by decide) (hts _ k_X8_firsts_1) (fun _ h9 => h9) rfl dX8_firsts_47 ?_
            refine lv_bipush (v := (15)) hx hb dX8_firsts_50 (by decide) ?_
            refine lv_iload hx hb dX8_firsts_52 (lv_at hl 4 rfl) ?_
            refine lv_iadd hx hb dX8_firsts_54 ?_
            obtain ⟨hi, h⟩ := h
            refine x_iald (v := now ((15 : Int32) + x4).toNatClampNeg) hx hb hK hP 5 rfl hi rfl dX8_firsts_55 ?_
            refine lv_iload_n hx hb dX8_firsts_56 rfl (lv_at hl 1 rfl) ?_
            refine lv_icmp_ne (tgt := 78) hx hb dX8_firsts_57 (by decide) (fun hc => ?_) (fun hc => ?_)
            · have h := h.1 hc
              refine lv_iconst (v := (0)) hx hb dX8_firsts_78 (by decide) ?_
              refine lv_iadd hx hb dX8_firsts_79 ?_
              refine lv_istore_n (lv' := [(3, .int (x3 + (0 : Int32))), (0, .ref (a 0)), (1, .int p), (2, .int q), (4, .int x4)]) hx hb dX8_firsts_80 rfl hl (by decide) rfl (fun ls hl => ?_)
              refine lv_iinc (v := x4 + 1) (lv' := [(4, .int (x4 + 1)), (3, .int (x3 + (0 : Int32))), (0, .ref (a 0)), (1, .int p), (2, .int q)]) hx hb dX8_firsts_81 hl (k := 4) rfl rfl (by decide) rfl (fun ls hl => ?_)
              refine lv_goto (tgt := 5) hx hb dX8_firsts_84 (by decide) ?_
              exact ih5 (x3 + (0 : Int32)) (x4 + 1) h ls (lv_sub hl [2, 3, 4, 1, 0] rfl)
            · have h := h.2 hc
              refine lv_aload_n hx hb dX8_firsts_60 rfl (lv_at hl 0 rfl) ?_
              refine va_get (D := D) (ci := 7) (v := .ref (a 5)) (C := RX8) (T := TX8) (N := 17) hx hb hts hi_X8_firsts_X8 hown hK.1 hP 0 rfl rfl 4 (by decide) (hts _ k_X8_firsts_1) (fun _ h9 => h9) rfl dX8_firsts_61 ?_
              refine lv_bipush (v := (27)) hx hb dX8_firsts_64 (by decide) ?_
              refine lv_iload hx hb dX8_firsts_66 (lv_at hl 4 rfl) ?_
              refine lv_iadd hx hb dX8_firsts_68 ?_
              obtain ⟨hi, h⟩ := h
              refine x_iald (v := now ((27 : Int32) + x4).toNatClampNeg) hx hb hK hP 5 rfl hi rfl dX8_firsts_69 ?_
              refine lv_iload_n hx hb dX8_firsts_70 rfl (lv_at hl 2 rfl) ?_
              refine lv_icmp_ne (tgt := 78) hx hb dX8_firsts_71 (by decide) (fun hc => ?_) (fun hc => ?_)
              · have h := h.1 hc
                refine lv_iconst (v := (0)) hx hb dX8_firsts_78 (by decide) ?_
                refine lv_iadd hx hb dX8_firsts_79 ?_
                refine lv_istore_n (lv' := [(3, .int (x3 + (0 : Int32))), (0, .ref (a 0)), (1, .int p), (2, .int q), (4, .int x4)]) hx hb dX8_firsts_80 rfl hl (by decide) rfl (fun ls hl => ?_)
                refine lv_iinc (v := x4 + 1) (lv' := [(4, .int (x4 + 1)), (3, .int (x3 + (0 : Int32))), (0, .ref (a 0)), (1, .int p), (2, .int q)]) hx hb dX8_firsts_81 hl (k := 4) rfl rfl (by decide) rfl (fun ls hl => ?_)
                refine lv_goto (tgt := 5) hx hb dX8_firsts_84 (by decide) ?_
                exact ih5 (x3 + (0 : Int32)) (x4 + 1) h ls (lv_sub hl [2, 3, 4, 1, 0] rfl)
              · have h := h.2 hc
                refine lv_iconst (v := (1)) hx hb dX8_firsts_74 (by decide) ?_
                refine lv_goto (tgt := 79) hx hb dX8_firsts_75 (by decide) ?_
                refine lv_iadd hx hb dX8_firsts_79 ?_
                refine lv_istore_n (lv' := [(3, .int (x3 + (1 : Int32))), (0, .ref (a 0)), (1, .int p), (2, .int q), (4, .int x4)]) hx hb dX8_firsts_80 rfl hl (by decide) rfl (fun ls hl => ?_)
                refine lv_iinc (v := x4 + 1) (lv' := [(4, .int (x4 + 1)), (3, .int (x3 + (1 : Int32))), (0, .ref (a 0)), (1, .int p), (2, .int q)]) hx hb dX8_firsts_81 hl (k := 4) rfl rfl (by decide) rfl (fun ls hl => ?_)
                refine lv_goto (tgt := 5) hx hb dX8_firsts_84 (by decide) ?_
                exact ih5 (x3 + (1 : Int32)) (x4 + 1) h ls (lv_sub hl [2, 3, 4, 1, 0] rfl)
  unfold wp_X8_firsts at h
  refine lv_iconst (v := (0)) hx hb dX8_firsts_0 (by decide) ?_
  refine lv_istore_n (lv' := [(3, .int (0 : Int32)), (0, .ref (a 0)), (1, .int p), (2, .int q)]) hx hb dX8_firsts_1 rfl hl (by decide) rfl (fun ls hl => ?_)
  refine lv_iconst (v := (0)) hx hb dX8_firsts_2 (by decide) ?_
  refine lv_istore (lv' := [(4, .int (0 : Int32)), (3, .int (0 : Int32)), (0, .ref (a 0)), (1, .int p), (2, .int q)]) hx hb dX8_firsts_3 hl (by decide) rfl (fun ls hl => ?_)
  obtain ⟨zn, h⟩ := h
  exact w_5  zn (0 : Int32) (0 : Int32) h ls (lv_sub hl [2, 3, 4, 1, 0] rfl)

-- IronedQuarrelsModel.wash()I
def wb_X8_wash_14 (now : Nat → Int32) (K4 : (Int32) → (Int32) → Prop) (K14 : (Int32) → (Int32) → (Int32) → Prop) (x1 : Int32) (x2 : Int32) (x3 : Int32) : Prop :=
  ((6 : Int32) ≤ x3 → (K4 x1 (x2 + 1))) ∧ (¬ (6 : Int32) ≤ x3 → (wp_X8_firsts now x2 x3 (fun r1 => wp_X8_firsts now x3 x2 (fun r2 => (r2 ≤ r1 → (wp_X8_firsts now x3 x2 (fun r3 => K14 (x1 + r3) x2 (x3 + 1)))) ∧ (¬ r2 ≤ r1 → (wp_X8_firsts now x2 x3 (fun r4 => K14 (x1 + r4) x2 (x3 + 1))))))))
def wl_X8_wash_14 (now : Nat → Int32) (K4 : (Int32) → (Int32) → Prop) : Nat → (Int32) → (Int32) → (Int32) → Prop
  | 0 => fun _ _ _ => False
  | zn + 1 => wb_X8_wash_14 now K4 (wl_X8_wash_14 now K4 zn)
def wb_X8_wash_4 (now : Nat → Int32) (post : Int32 → Prop) (K4 : (Int32) → (Int32) → Prop) (x1 : Int32) (x2 : Int32) : Prop :=
  ((6 : Int32) ≤ x2 → (post x1)) ∧ (¬ (6 : Int32) ≤ x2 → (∃ zn, wl_X8_wash_14 now K4 zn x1 x2 (x2 + (1 : Int32))))
def wl_X8_wash_4 (now : Nat → Int32) (post : Int32 → Prop) : Nat → (Int32) → (Int32) → Prop
  | 0 => fun _ _ => False
  | zn + 1 => wb_X8_wash_4 now post (wl_X8_wash_4 now post zn)
def wp_X8_wash (now : Nat → Int32) (post : Int32 → Prop) : Prop :=
  ∃ zn, wl_X8_wash_4 now post zn (0 : Int32) (0 : Int32)
def rm_X8_wash : Room := { frames := 2, cells := 0, slots := 0, locals := 45 }
theorem hi_X8_wash_X8 : ∀ w ∈ wsX80, w ∈ wsX8_wash := fun w h => List.mem_cons_of_mem _ (List.mem_append_right _ h)
set_option maxHeartbeats 4000000 in
set_option maxRecDepth 100000 in
theorem c_X8_wash (l : Launch) (D : va_G) (ca : Nat → ClassId) (a : Nat → Nat) (rowSizes : Nat → Int32) (rows : Nat → Int32) (textSizes : Nat → Int32) (texts : Nat → Int32) (now : Nat → Int32) (keeps : Nat → Int32) (kept : Nat → Int32) (asked : Int32) (upper : Int64) (lower : Int64) (finding : Int32) (findings : Nat → Int32) (read : Nat → Int32) (at_ : Int32) (costs : Nat → Int32) (ways : Nat → Int64) (reach : Nat → Int32)  (post : Int32 → Prop) (h : wp_X8_wash now post) : Met l yX8_wash wsX8_wash rm_X8_wash (PcX D ca [.ref (a 0)] (W_X8 ca a rowSizes rows textSizes texts now keeps kept asked upper lower finding findings read at_ costs ways reach)) (rdI post) 0 0 (fun _ => False) := by
  refine Met.ofW (cc := cX8_wash) (maxL := 4) (ret := (some .int)) (by decide) rfl ?_
  intro zp ze zs zm za zb zt zc z1 B hml hv
  obtain ⟨rfl, hP, hK⟩ := hv
  have hx := B.exec
  have hb := B.bytes
  have hr := B.returns
  have hts := atoms_spec (ws := wsX8_wash) B.pre
  have hown : zs.vm.findClass RX8 = some zm.cls := findClass_of_methodNamed B.named
  have hlocks := B.notSynchronized
  have hl := lv_entry ([.ref (a 0)]) (n := 4) (Nat.le_of_ble_eq_true rfl)
  rw [lg_entry_eq]
  generalize (lg_sl ([.ref (a 0)]) ++ List.replicate (4 - (lg_sl ([.ref (a 0)])).length) Slot.unset).toArray = ls at hl ⊢
  replace hl : lv_has ls 4 [(0, .ref (a 0))] := hl
  show W zp l ze rm_X8_wash zs zm ([.ref (a 0)] : List Value).toArray zb zt zc zs.heap [] 0 0 (MQ zb (rdI post) ([.ref (a 0)] : List Value).toArray zs 0 0 (fun _ => False)) (F0 zm 0 ls [])
  have w_14 : ∀ (K4 : (Int32) → (Int32) → Prop) (ih4 : ∀ (x1 : Int32) (x2 : Int32), K4 x1 x2 → ∀ ls : Array Slot, lv_has ls 4 [(0, .ref (a 0)), (1, .int x1), (2, .int x2)] → W zp l ze rm_X8_wash zs zm ([.ref (a 0)] : List Value).toArray zb zt zc zs.heap [] 0 0 (MQ zb (rdI post) ([.ref (a 0)] : List Value).toArray zs 0 0 (fun _ => False)) (F0 zm 4 ls [])) (zn : Nat) (x1 : Int32) (x2 : Int32) (x3 : Int32), wl_X8_wash_14 now K4 zn x1 x2 x3 → ∀ ls : Array Slot, lv_has ls 4 [(0, .ref (a 0)), (1, .int x1), (2, .int x2), (3, .int x3)] → W zp l ze rm_X8_wash zs zm ([.ref (a 0)] : List Value).toArray zb zt zc zs.heap [] 0 0 (MQ zb (rdI post) ([.ref (a 0)] : List Value).toArray zs 0 0 (fun _ => False)) (F0 zm 14 ls []) := by
    intro K4 ih4 zn
    induction zn with
    | zero => intro x1 x2 x3 h; exact h.elim
    | succ zn ih14 =>
      intro x1 x2 x3 h ls hl
      replace h : wb_X8_wash_14 now K4 (wl_X8_wash_14 now K4 zn) x1 x2 x3 := h
      unfold wb_X8_wash_14 at h
      refine lv_iload_n hx hb dX8_wash_14 rfl (lv_at hl 3 rfl) ?_
      refine lv_bipush (v := (6)) hx hb dX8_wash_15 (by decide) ?_
      refine lv_icmp_ge (tgt := 59) hx hb dX8_wash_17 (by decide) (fun hc => ?_) (fun hc => ?_)
      · have h := h.1 hc
        refine lv_iinc (v := x2 + 1) (lv' := [(2, .int (x2 + 1)), (0, .ref (a 0)), (1, .int x1), (3, .int x3)]) hx hb dX8_wash_59 hl (k := 2) rfl rfl (by decide) rfl (fun ls hl => ?_)
        refine lv_goto (tgt := 4) hx hb dX8_wash_62 (by decide) ?_
        exact ih4 x1 (x2 + 1) h ls (lv_sub hl [1, 2, 0] rfl)
      · have h := h.2 hc
        refine lv_iload_n hx hb dX8_wash_20 rfl (lv_at hl 1 rfl) ?_
        refine lv_aload_n hx hb dX8_wash_21 rfl (lv_at hl 0 rfl) ?_
        refine lv_iload_n hx hb dX8_wash_22 rfl (lv_at hl 2 rfl) ?_
        refine lv_iload_n hx hb dX8_wash_23 rfl (lv_at hl 3 rfl) ?_
        refine rd_calli (va_runV (As := [.int x2, .int x3]) (rest := [.int x1]) ⟨hx, hb, hml, hown, hts⟩ (c_X8_firsts l D ca a rowSizes rows textSizes texts now keeps kept asked upper lower finding findings read at_ costs ways reach x2 x3 _ h) (cwV 2 hts gX8_wash_X8_firsts rfl rfl rfl (by decide +kernel) ⟨Nat.le_of_ble_eq_true rfl, Nat.le_of_ble_eq_true rfl⟩) (PcX.preV (q := (RX8, TX8, 17)) (ci := 7) (q0 := 0) hK hP rfl rfl hP) rfl rfl hl.1 rfl (lv_room (Nat.le_of_ble_eq_true rfl)) dX8_wash_24 ⟨Nat.le_of_ble_eq_true rfl, Nat.le_of_ble_eq_true rfl⟩) (fun r1 h => ?_)
        try dsimp only at h
        refine lv_aload_n hx hb dX8_wash_27 rfl (lv_at hl 0 rfl) ?_
        refine lv_iload_n hx hb dX8_wash_28 rfl (lv_at hl 3 rfl) ?_
        refine lv_iload_n hx hb dX8_wash_29 rfl (lv_at hl 2 rfl) ?_
        refine rd_calli (va_runV (As := [.int x3, .int x2]) (rest := [.int r1, .int x1]) ⟨hx, hb, hml, hown, hts⟩ (c_X8_firsts l D ca a rowSizes rows textSizes texts now keeps kept asked upper lower finding findings read at_ costs ways reach x3 x2 _ h) (cwV 2 hts gX8_wash_X8_firsts rfl rfl rfl (by decide +kernel) ⟨Nat.le_of_ble_eq_true rfl, Nat.le_of_ble_eq_true rfl⟩) (PcX.preV (q := (RX8, TX8, 17)) (ci := 7) (q0 := 0) hK hP rfl rfl hP) rfl rfl hl.1 rfl (lv_room (Nat.le_of_ble_eq_true rfl)) dX8_wash_30 ⟨Nat.le_of_ble_eq_true rfl, Nat.le_of_ble_eq_true rfl⟩) (fun r2 h => ?_)
        try dsimp only at h
        refine lv_icmp_ge (tgt := 45) hx hb dX8_wash_33 (by decide) (fun hc => ?_) (fun hc => ?_)
        · have h := h.1 hc
          refine lv_aload_n hx hb dX8_wash_45 rfl (lv_at hl 0 rfl) ?_
          refine lv_iload_n hx hb dX8_wash_46 rfl (lv_at hl 3 rfl) ?_
          refine lv_iload_n hx hb dX8_wash_47 rfl (lv_at hl 2 rfl) ?_
          refine rd_calli (va_runV (As := [.int x3, .int x2]) (rest := [.int x1]) ⟨hx, hb, hml, hown, hts⟩ (c_X8_firsts l D ca a rowSizes rows textSizes texts now keeps kept asked upper lower finding findings read at_ costs ways reach x3 x2 _ h) (cwV 2 hts gX8_wash_X8_firsts rfl rfl rfl (by decide +kernel) ⟨Nat.le_of_ble_eq_true rfl, Nat.le_of_ble_eq_true rfl⟩) (PcX.preV (q := (RX8, TX8, 17)) (ci := 7) (q0 := 0) hK hP rfl rfl hP) rfl rfl hl.1 rfl (lv_room (Nat.le_of_ble_eq_true rfl)) dX8_wash_48 ⟨Nat.le_of_ble_eq_true rfl, Nat.le_of_ble_eq_true rfl⟩) (fun r3 h => ?_)
          try dsimp only at h
          refine lv_iadd hx hb dX8_wash_51 ?_
          refine lv_istore_n (lv' := [(1, .int (x1 + r3)), (0, .ref (a 0)), (2, .int x2), (3, .int x3)]) hx hb dX8_wash_52 rfl hl (by decide) rfl (fun ls hl => ?_)
          refine lv_iinc (v := x3 + 1) (lv' := [(3, .int (x3 + 1)), (1, .int (x1 + r3)), (0, .ref (a 0)), (2, .int x2)]) hx hb dX8_wash_53 hl (k := 3) rfl rfl (by decide) rfl (fun ls hl => ?_)
          refine lv_goto (tgt := 14) hx hb dX8_wash_56 (by decide) ?_
          exact ih14 (x1 + r3) x2 (x3 + 1) h ls (lv_sub hl [2, 1, 3, 0] rfl)
        · have h := h.2 hc
          refine lv_aload_n hx hb dX8_wash_36 rfl (lv_at hl 0 rfl) ?_
          refine lv_iload_n hx hb dX8_wash_37 rfl (lv_at hl 2 rfl) ?_
          refine lv_iload_n hx hb dX8_wash_38 rfl (lv_at hl 3 rfl) ?_
          refine rd_calli (va_runV (As := [.int x2, .int x3]) (rest := [.int x1]) ⟨hx, hb, hml, hown, hts⟩ (c_X8_firsts l D ca a rowSizes rows textSizes texts now keeps kept asked upper lower finding findings read at_ costs ways reach x2 x3 _ h) (cwV 2 hts gX8_wash_X8_firsts rfl rfl rfl (by decide +kernel) ⟨Nat.le_of_ble_eq_true rfl, Nat.le_of_ble_eq_true rfl⟩) (PcX.preV (q := (RX8, TX8, 17)) (ci := 7) (q0 := 0) hK hP rfl rfl hP) rfl rfl hl.1 rfl (lv_room (Nat.le_of_ble_eq_true rfl)) dX8_wash_39 ⟨Nat.le_of_ble_eq_true rfl, Nat.le_of_ble_eq_true rfl⟩) (fun r4 h => ?_)
          try dsimp only at h
          refine lv_goto (tgt := 51) hx hb dX8_wash_42 (by decide) ?_
          refine lv_iadd hx hb dX8_wash_51 ?_
          refine lv_istore_n (lv' := [(1, .int (x1 + r4)), (0, .ref (a 0)), (2, .int x2), (3, .int x3)]) hx hb dX8_wash_52 rfl hl (by decide) rfl (fun ls hl => ?_)
          refine lv_iinc (v := x3 + 1) (lv' := [(3, .int (x3 + 1)), (1, .int (x1 + r4)), (0, .ref (a 0)), (2, .int x2)]) hx hb dX8_wash_53 hl (k := 3) rfl rfl (by decide) rfl (fun ls hl => ?_)
          refine lv_goto (tgt := 14) hx hb dX8_wash_56 (by decide) ?_
          exact ih14 (x1 + r4) x2 (x3 + 1) h ls (lv_sub hl [2, 1, 3, 0] rfl)
  have w_4 : ∀ (zn : Nat) (x1 : Int32) (x2 : Int32), wl_X8_wash_4 now post zn x1 x2 → ∀ ls : Array Slot, lv_has ls 4 [(0, .ref (a 0)), (1, .int x1), (2, .int x2)] → W zp l ze rm_X8_wash zs zm ([.ref (a 0)] : List Value).toArray zb zt zc zs.heap [] 0 0 (MQ zb (rdI post) ([.ref (a 0)] : List Value).toArray zs 0 0 (fun _ => False)) (F0 zm 4 ls []) := by
    intro zn
    induction zn with
    | zero => intro x1 x2 h; exact h.elim
    | succ zn ih4 =>
      intro x1 x2 h ls hl
      replace h : wb_X8_wash_4 now post (wl_X8_wash_4 now post zn) x1 x2 := h
      unfold wb_X8_wash_4 at h
      refine lv_iload_n hx hb dX8_wash_4 rfl (lv_at hl 2 rfl) ?_
      refine lv_bipush (v := (6)) hx hb dX8_wash_5 (by decide) ?_
      refine lv_icmp_ge (tgt := 65) hx hb dX8_wash_7 (by decide) (fun hc => ?_) (fun hc => ?_)
      · have h := h.1 hc
        refine lv_iload_n hx hb dX8_wash_65 rfl (lv_at hl 1 rfl) ?_
        exact W.iret (v := x1) hx hb hr (fun zt ht hW => ⟨x1, rfl, h, ht⟩) (fun zq hq => absurd hq List.not_mem_nil) dX8_wash_66
      · have h := h.2 hc
        refine lv_iload_n hx hb dX8_wash_10 rfl (lv_at hl 2 rfl) ?_
        refine lv_iconst (v := (1)) hx hb dX8_wash_11 (by decide) ?_
        refine lv_iadd hx hb dX8_wash_12 ?_
        refine lv_istore_n (lv' := [(3, .int (x2 + (1 : Int32))), (0, .ref (a 0)), (1, .int x1), (2, .int x2)]) hx hb dX8_wash_13 rfl hl (by decide) rfl (fun ls hl => ?_)
        obtain ⟨zn, h⟩ := h
        exact w_14 _ ih4 zn x1 x2 (x2 + (1 : Int32)) h ls (lv_sub hl [1, 2, 3, 0] rfl)
  unfold wp_X8_wash at h
  refine lv_iconst (v := (0)) hx hb dX8_wash_0 (by decide) ?_
  refine lv_istore_n (lv' := [(1, .int (0 : Int32)), (0, .ref (a 0))]) hx hb dX8_wash_1 rfl hl (by decide) rfl (fun ls hl => ?_)
  refine lv_iconst (v := (0)) hx hb dX8_wash_2 (by decide) ?_
  refine lv_istore_n (lv' := [(2, .int (0 : Int32)), (1, .int (0 : Int32)), (0, .ref (a 0))]) hx hb dX8_wash_3 rfl hl (by decide) rfl (fun ls hl => ?_)
  obtain ⟨zn, h⟩ := h
  exact w_4  zn (0 : Int32) (0 : Int32) h ls (lv_sub hl [2, 1, 0] rfl)

-- IronedQuarrelsModel.pricesOf(I)I
def wb_X8_pricesOf_52 (now : Nat → Int32) (K4 : (Int32) → (Int32) → Prop) (x2 : Int32) (x3 : Int32) (s0 : Int32) : Prop :=
  (s0 = 0 → (K4 (x2 + (0 : Int32)) (x3 + 1))) ∧ (¬ s0 = 0 → (wp_X8_price now x3 (now 2) (fun r2 => K4 (x2 + r2) (x3 + 1))))
def wb_X8_pricesOf_51 (now : Nat → Int32) (K4 : (Int32) → (Int32) → Prop) (x2 : Int32) (x3 : Int32) : Prop :=
  wb_X8_pricesOf_52 now K4 x2 x3 (0 : Int32)
def wb_X8_pricesOf_4 (now : Nat → Int32) (persons : Int32) (post : Int32 → Prop) (K4 : (Int32) → (Int32) → Prop) (x2 : Int32) (x3 : Int32) : Prop :=
  ((now 0) ≤ x3 → (post x2)) ∧ (¬ (now 0) ≤ x3 → (wp_X8_has (now 2) x3 (fun r1 => (r1 = 0 → (wb_X8_pricesOf_51 now K4 x2 x3)) ∧ (¬ r1 = 0 → (wp_X8_rootOf now x3 (fun r3 => vp_in ((15 : Int32) + r3) 115 ∧ wp_X8_has persons (now ((15 : Int32) + r3).toNatClampNeg) (fun r4 => (r4 = 0 → (wb_X8_pricesOf_51 now K4 x2 x3)) ∧ (¬ r4 = 0 → (wb_X8_pricesOf_52 now K4 x2 x3 (1 : Int32))))))))))
def wl_X8_pricesOf_4 (now : Nat → Int32) (persons : Int32) (post : Int32 → Prop) : Nat → (Int32) → (Int32) → Prop
  | 0 => fun _ _ => False
  | zn + 1 => wb_X8_pricesOf_4 now persons post (wl_X8_pricesOf_4 now persons post zn)
def wp_X8_pricesOf (now : Nat → Int32) (persons : Int32) (post : Int32 → Prop) : Prop :=
  ∃ zn, wl_X8_pricesOf_4 now persons post zn (0 : Int32) (0 : Int32)
def rm_X8_pricesOf : Room := { frames := 3, cells := 0, slots := 0, locals := 70 }
theorem k_X8_pricesOf_1 : Cond.fieldLink RX8 22 "IronedQuarrelsModel" "now" "[I" ∈ wsX8_pricesOf := List.mem_of_getElem? (i := 1) (by decide +kernel)
theorem hi_X8_pricesOf_X8 : ∀ w ∈ wsX80, w ∈ wsX8_pricesOf := fun w h => List.mem_cons_of_mem _ (List.mem_append_right _ h)
set_option maxHeartbeats 4000000 in
set_option maxRecDepth 100000 in
theorem c_X8_pricesOf (l : Launch) (D : va_G) (ca : Nat → ClassId) (a : Nat → Nat) (rowSizes : Nat → Int32) (rows : Nat → Int32) (textSizes : Nat → Int32) (texts : Nat → Int32) (now : Nat → Int32) (keeps : Nat → Int32) (kept : Nat → Int32) (asked : Int32) (upper : Int64) (lower : Int64) (finding : Int32) (findings : Nat → Int32) (read : Nat → Int32) (at_ : Int32) (costs : Nat → Int32) (ways : Nat → Int64) (reach : Nat → Int32) (persons : Int32) (post : Int32 → Prop) (h : wp_X8_pricesOf now persons post) : Met l yX8_pricesOf wsX8_pricesOf rm_X8_pricesOf (PcX D ca [.ref (a 0), .int persons] (W_X8 ca a rowSizes rows textSizes texts now keeps kept asked upper lower finding findings read at_ costs ways reach)) (rdI post) 0 0 (fun _ => False) := by
  refine Met.ofW (cc := cX8_pricesOf) (maxL := 5) (ret := (some .int)) (by decide) rfl ?_
  intro zp ze zs zm za zb zt zc z1 B hml hv
  obtain ⟨rfl, hP, hK⟩ := hv
  have hx := B.exec
  have hb := B.bytes
  have hr := B.returns
  have hts := atoms_spec (ws := wsX8_pricesOf) B.pre
  have hown : zs.vm.findClass RX8 = some zm.cls := findClass_of_methodNamed B.named
  have hlocks := B.notSynchronized
  have hl := lv_entry ([.ref (a 0), .int persons]) (n := 5) (Nat.le_of_ble_eq_true rfl)
  rw [lg_entry_eq]
  generalize (lg_sl ([.ref (a 0), .int persons]) ++ List.replicate (5 - (lg_sl ([.ref (a 0), .int persons])).length) Slot.unset).toArray = ls at hl ⊢
  replace hl : lv_has ls 5 [(0, .ref (a 0)), (1, .int persons)] := hl
  show W zp l ze rm_X8_pricesOf zs zm ([.ref (a 0), .int persons] : List Value).toArray zb zt zc zs.heap [] 0 0 (MQ zb (rdI post) ([.ref (a 0), .int persons] : List Value).toArray zs 0 0 (fun _ => False)) (F0 zm 0 ls [])
  have w_52 : ∀ (K4 : (Int32) → (Int32) → Prop) (ih4 : ∀ (x2 : Int32) (x3 : Int32), K4 x2 x3 → ∀ ls : Array Slot, lv_has ls 5 [(0, .ref (a 0)), (1, .int persons), (2, .int x2), (3, .int x3)] → W zp l ze rm_X8_pricesOf zs zm ([.ref (a 0), .int persons] : List Value).toArray zb zt zc zs.heap [] 0 0 (MQ zb (rdI post) ([.ref (a 0), .int persons] : List Value).toArray zs 0 0 (fun _ => False)) (F0 zm 4 ls [])) (x2 : Int32) (x3 : Int32) (s0 : Int32), wb_X8_pricesOf_52 now K4 x2 x3 s0 → ∀ ls : Array Slot, lv_has ls 5 [(0, .ref (a 0)), (1, .int persons), (2, .int x2), (3, .int x3)] → W zp l ze rm_X8_pricesOf zs zm ([.ref (a 0), .int persons] : List Value).toArray zb zt zc zs.heap [] 0 0 (MQ zb (rdI post) ([.ref (a 0), .int persons] : List Value).toArray zs 0 0 (fun _ => False)) (F0 zm 52 ls [.int s0]) := by
    intro K4 ih4 x2 x3 s0 h ls hl
    unfold wb_X8_pricesOf_52 at h
    refine lv_istore (lv' := [(4, .int s0), (0, .ref (a 0)), (1, .int persons), (2, .int x2), (3, .int x3)]) hx hb dX8_pricesOf_52 hl (by decide) rfl (fun ls hl => ?_)
    refine lv_iload_n hx hb dX8_pricesOf_54 rfl (lv_at hl 3 rfl) ?_
    refine lv_iload hx hb dX8_pricesOf_55 (lv_at hl 0 rfl) ?_
    refine lv_if_eq (tgt := 74) hx hb dX8_pricesOf_57 (by decide) (fun hc => ?_) (fun hc => ?_)
    · have h := h.1 hc
      refine lv_iconst (v := (0)) hx hb dX8_pricesOf_74 (by decide) ?_
      refine lv_iadd hx hb dX8_pricesOf_75 ?_
      refine lv_istore_n (lv' := [(2, .int (x2 + (0 : Int32))), (4, .int s0), (0, .ref (a 0)), (1, .int persons), (3, .int x3)]) hx hb dX8_pricesOf_76 rfl hl (by decide) rfl (fun ls hl => ?_)
      refine lv_iinc (v := x3 + 1) (lv' := [(3, .int (x3 + 1)), (2, .int (x2 + (0 : Int32))), (4, .int s0), (0, .ref (a 0)), (1, .int persons)]) hx hb dX8_pricesOf_77 hl (k := 4) rfl rfl (by decide) rfl (fun ls hl => ?_)
      refine lv_goto (tgt := 4) hx hb dX8_pricesOf_80 (by decide) ?_
      exact ih4 (x2 + (0 : Int32)) (x3 + 1) h ls (lv_sub hl [3, 4, 1, 0] rfl)
    · have h := h.2 hc
      refine lv_aload_n hx hb dX8_pricesOf_60 rfl (lv_at hl 1 rfl) ?_
      refine lv_iload_n hx hb dX8_pricesOf_61 rfl (lv_at hl 4 rfl) ?_
      refine lv_aload_n hx hb dX8_pricesOf_62 rfl (lv_at hl 1 rfl) ?_
      refine va_get (D := D) (ci := 7) (v := .ref (a 5)) (C := RX8) (T := TX8) (N := 17) hx hb hts hi_X8_pricesOf_X8 hown hK.1 hP 0 rfl rfl 4 (by decide) (hts _ k_X8_pricesOf_1) (fun _ h9 => h9) rfl dX8_pricesOf_63 ?_
      refine lv_iconst (v := (2)) hx hb dX8_pricesOf_66 (by decide) ?_
      refine x_iald (v := now 2) hx hb hK hP 5 rfl (vin_lit (by decide)) rfl dX8_pricesOf_67 ?_
      refine rd_calli (va_runV (As := [.int x3, .int (now 2)]) (rest := [.int x2]) ⟨hx, hb, hml, hown, hts⟩ (c_X8_price l D ca a rowSizes rows textSizes texts now keeps kept asked upper lower finding findings read at_ costs ways reach x3 (now 2) _ h) (cwV 2 hts gX8_pricesOf_X8_price rfl rfl rfl (by decide +kernel) ⟨Nat.le_of_ble_eq_true rfl, Nat.le_of_ble_eq_true rfl⟩) (PcX.preV (q := (RX8, TX8, 17)) (ci := 7) (q0 := 0) hK hP rfl rfl hP) rfl rfl hl.1 rfl (lv_room (Nat.le_of_ble_eq_true rfl)) dX8_pricesOf_68 ⟨Nat.le_of_ble_eq_true rfl, Nat.le_of_ble_eq_true rfl⟩) (fun r2 h => ?_)
      try dsimp only at h
      refine lv_goto (tgt := 75) hx hb dX8_pricesOf_71 (by decide) ?_
      refine lv_iadd hx hb dX8_pricesOf_75 ?_
      refine lv_istore_n (lv' := [(2, .int (x2 + r2)), (4, .int s0), (0, .ref (a 0)), (1, .int persons), (3, .int x3)]) hx hb dX8_pricesOf_76 rfl hl (by decide) rfl (fun ls hl => ?_)
      refine lv_iinc (v := x3 + 1) (lv' := [(3, .int (x3 + 1)), (2, .int (x2 + r2)), (4, .int s0), (0, .ref (a 0)), (1, .int persons)]) hx hb dX8_pricesOf_77 hl (k := 4) rfl rfl (by decide) rfl (fun ls hl => ?_)
      refine lv_goto (tgt := 4) hx hb dX8_pricesOf_80 (by decide) ?_
      exact ih4 (x2 + r2) (x3 + 1) h ls (lv_sub hl [3, 4, 1, 0] rfl)
  have w_51 : ∀ (K4 : (Int32) → (Int32) → Prop) (ih4 : ∀ (x2 : Int32) (x3 : Int32), K4 x2 x3 → ∀ ls : Array Slot, lv_has ls 5 [(0, .ref (a 0)), (1, .int persons), (2, .int x2), (3, .int x3)] → W zp l ze rm_X8_pricesOf zs zm ([.ref (a 0), .int persons] : List Value).toArray zb zt zc zs.heap [] 0 0 (MQ zb (rdI post) ([.ref (a 0), .int persons] : List Value).toArray zs 0 0 (fun _ => False)) (F0 zm 4 ls [])) (x2 : Int32) (x3 : Int32), wb_X8_pricesOf_51 now K4 x2 x3 → ∀ ls : Array Slot, lv_has ls 5 [(0, .ref (a 0)), (1, .int persons), (2, .int x2), (3, .int x3)] → W zp l ze rm_X8_pricesOf zs zm ([.ref (a 0), .int persons] : List Value).toArray zb zt zc zs.heap [] 0 0 (MQ zb (rdI post) ([.ref (a 0), .int persons] : List Value).toArray zs 0 0 (fun _ => False)) (F0 zm 51 ls []) := by
    intro K4 ih4 x2 x3 h ls hl
    unfold wb_X8_pricesOf_51 at h
    refine lv_iconst (v := (0)) hx hb dX8_pricesOf_51 (by decide) ?_
    exact w_52 _ ih4 x2 x3 (0 : Int32) h ls (lv_sub hl [0, 1, 2, 3] rfl)
  have w_4 : ∀ (zn : Nat) (x2 : Int32) (x3 : Int32), wl_X8_pricesOf_4 now persons post zn x2 x3 → ∀ ls : Array Slot, lv_has ls 5 [(0, .ref (a 0)), (1, .int persons), (2, .int x2), (3, .int x3)] → W zp l ze rm_X8_pricesOf zs zm ([.ref (a 0), .int persons] : List Value).toArray zb zt zc zs.heap [] 0 0 (MQ zb (rdI post) ([.ref (a 0), .int persons] : List Value).toArray zs 0 0 (fun _ => False)) (F0 zm 4 ls []) := by
    intro zn
    induction zn with
    | zero => intro x2 x3 h; exact h.elim
    | succ zn ih4 =>
      intro x2 x3 h ls hl
      replace h : wb_X8_pricesOf_4 now persons post (wl_X8_pricesOf_4 now persons post zn) x2 x3 := h
      unfold wb_X8_pricesOf_4 at h
      refine lv_iload_n hx hb dX8_pricesOf_4 rfl (lv_at hl 3 rfl) ?_
      refine lv_aload_n hx hb dX8_pricesOf_5 rfl (lv_at hl 0 rfl) ?_
      refine va_get (D := D) (ci := 7) (v := .ref (a 5)) (C := RX8) (T := TX8) (N := 17) hx hb hts hi_X8_pricesOf_X8 hown hK.1 hP 0 rfl rfl 4 (by decide) (hts _ k_X8_pricesOf_1) (fun _ h9 => h9) rfl dX8_pricesOf_6 ?_
      refine lv_iconst (v := (0)) hx hb dX8_pricesOf_9 (by decide) ?_
      refine x_iald (v := now 0) hx hb hK hP 5 rfl (vin_lit (by decide)) rfl dX8_pricesOf_10 ?_
      refine lv_icmp_ge (tgt := 83) hx hb dX8_pricesOf_11 (by decide) (fun hc => ?_) (fun hc => ?_)
      · have h := h.1 hc
        refine lv_iload_n hx hb dX8_pricesOf_83 rfl (lv_at hl 2 rfl) ?_
        exact W.iret (v := x2) hx hb hr (fun zt ht hW => ⟨x2, rfl, h, ht⟩) (fun zq hq => absurd hq List.not_mem_nil) dX8_pricesOf_84
      · have h := h.2 hc
        refine lv_aload_n hx hb dX8_pricesOf_14 rfl (lv_at hl 0 rfl) ?_
        refine va_get (D := D) (ci := 7) (v := .ref (a 5)) (C := RX8) (T := TX8) (N := 17) hx hb hts hi_X8_pricesOf_X8 hown hK.1 hP 0 rfl rfl 4 (by decide) (hts _ k_X8_pricesOf_1) (fun _ h9 => h9) rfl dX8_pricesOf_15 ?_
        refine lv_iconst (v := (2)) hx hb dX8_pricesOf_18 (by decide) ?_
        refine x_iald (v := now 2) hx hb hK hP 5 rfl (vin_lit (by decide)) rfl dX8_pricesOf_19 ?_
        refine lv_iload_n hx hb dX8_pricesOf_20 rfl (lv_at hl 3 rfl) ?_
        refine rd_callz (va_runS (As := [.int (now 2), .int x3]) (rest := []) ⟨hx, hb, hml, hown, hts⟩ (c_X8_has l D ca   (now 2) x3 _ h) (va_cwS 2 hts gX8_pricesOf_X8_has rfl rfl rfl (by decide +kernel) ⟨Nat.le_of_ble_eq_true rfl, Nat.le_of_ble_eq_true rfl⟩) (PcX.preS hK (fun zk zq zh => by simp at zh)) rfl rfl hl.1 rfl (lv_room (Nat.le_of_ble_eq_true rfl)) dX8_pricesOf_21 ⟨Nat.le_of_ble_eq_true rfl, Nat.le_of_ble_eq_true rfl⟩) (fun r1 h hz_r1 => ?_)
        try dsimp only at h
        refine lv_if_eq (tgt := 51) hx hb dX8_pricesOf_24 (by decide) (fun hc => ?_) (fun hc => ?_)
        · have h := h.1 hc
          exact w_51 _ ih4 x2 x3 h ls (lv_sub hl [0, 1, 2, 3] rfl)
        · have h := h.2 hc
          refine lv_iload_n hx hb dX8_pricesOf_27 rfl (lv_at hl 1 rfl) ?_
          refine lv_aload_n hx hb dX8_pricesOf_28 rfl (lv_at hl 0 rfl) ?_
          refine va_get (D := D) (ci := 7) (v := .ref (a 5)) (C := RX8) (T := TX8) (N := 17) hx hb hts hi_X8_pricesOf_X8 hown hK.1 hP 0 rfl rfl 4 (by decide) (hts _ k_X8_pricesOf_1) (fun _ h9 => h9) rfl dX8_pricesOf_29 ?_
          refine lv_bipush (v := (15)) hx hb dX8_pricesOf_32 (by decide) ?_
          refine lv_aload_n hx hb dX8_pricesOf_34 rfl (lv_at hl 0 rfl) ?_
          refine lv_iload_n hx hb dX8_pricesOf_35 rfl (lv_at hl 3 rfl) ?_
          refine rd_calli (va_runV (As := [.int x3]) (rest := [.int (15 : Int32), .ref (a 5), .int persons]) ⟨hx, hb, hml, hown, hts⟩ (c_X8_rootOf l D ca a rowSizes rows textSizes texts now keeps kept asked upper lower finding findings read at_ costs ways reach x3 _ h) (cwV 1 hts gX8_pricesOf_X8_rootOf rfl rfl rfl (by decide +kernel) ⟨Nat.le_of_ble_eq_true rfl, Nat.le_of_ble_eq_true rfl⟩) (PcX.preV (q := (RX8, TX8, 17)) (ci := 7) (q0 := 0) hK hP rfl rfl hP) rfl rfl hl.1 rfl (lv_room (Nat.le_of_ble_eq_true rfl)) dX8_pricesOf_36 ⟨Nat.le_of_ble_eq_true rfl, Nat.le_of_ble_eq_true rfl⟩) (fun r3 h => ?_)
          try dsimp only at h
          refine lv_iadd hx hb dX8_pricesOf_39 ?_
          obtain ⟨hi, h⟩ := h
          refine x_iald (v := now ((15 : Int32) + r3).toNatClampNeg) hx hb hK hP 5 rfl hi rfl dX8_pricesOf_40 ?_
          refine rd_callz (va_runS (As := [.int persons, .int (now ((15 : Int32) + r3).toNatClampNeg)]) (rest := []) ⟨hx, hb, hml, hown, hts⟩ (c_X8_has l D ca   persons (now ((15 : Int32) + r3).toNatClampNeg) _ h) (va_cwS 2 hts gX8_pricesOf_X8_has rfl rfl rfl (by decide +kernel) ⟨Nat.le_of_ble_eq_true rfl, Nat.le_of_ble_eq_true rfl⟩) (PcX.preS hK (fun zk zq zh => by simp at zh)) rfl rfl hl.1 rfl (lv_room (Nat.le_of_ble_eq_true rfl)) dX8_pricesOf_41 ⟨Nat.le_of_ble_eq_true rfl, Nat.le_of_ble_eq_true rfl⟩) (fun r4 h hz_r4 => ?_)
          try dsimp only at h
          refine lv_if_eq (tgt := 51) hx hb dX8_pricesOf_44 (by decide) (fun hc => ?_) (fun hc => ?_)
          · have h := h.1 hc
            exact w_51 _ ih4 x2 x3 h ls (lv_sub hl [0, 1, 2, 3] rfl)
          · have h := h.2 hc
            refine lv_iconst (v := (1)) hx hb dX8_pricesOf_47 (by decide) ?_
            refine lv_goto (tgt := 52) hx hb dX8_pricesOf_48 (by decide) ?_
            exact w_52 _ ih4 x2 x3 (1 : Int32) h ls (lv_sub hl [0, 1, 2, 3] rfl)
  unfold wp_X8_pricesOf at h
  refine lv_iconst (v := (0)) hx hb dX8_pricesOf_0 (by decide) ?_
  refine lv_istore_n (lv' := [(2, .int (0 : Int32)), (0, .ref (a 0)), (1, .int persons)]) hx hb dX8_pricesOf_1 rfl hl (by decide) rfl (fun ls hl => ?_)
  refine lv_iconst (v := (0)) hx hb dX8_pricesOf_2 (by decide) ?_
  refine lv_istore_n (lv' := [(3, .int (0 : Int32)), (2, .int (0 : Int32)), (0, .ref (a 0)), (1, .int persons)]) hx hb dX8_pricesOf_3 rfl hl (by decide) rfl (fun ls hl => ?_)
  obtain ⟨zn, h⟩ := h
  exact w_4  zn (0 : Int32) (0 : Int32) h ls (lv_sub hl [2, 3, 1, 0] rfl)

-- IronedQuarrelsModel.bill(I)I
def wp_X8_bill (now : Nat → Int32) (upper : Int64) (lower : Int64) (finding : Int32) (findings : Nat → Int32) (p : Int32) (post : Int32 → (Int64) → (Int64) → (Int32) → (Nat → Int32) → Prop) : Prop :=
  wp_X8_isPerson p (fun r1 => (¬ r1 = 0 → ((¬ (now 2) = 0 → (wp_X8_pricesOf now ((1 : Int32) <<< (p &&& 31)) (fun r2 => wp_X8_pricesOf now (63 : Int32) (fun r3 => wp_X8_fraction upper lower r2.toInt64 r3.toInt64 (fun r4 upper_5 lower_6 => post r4 upper_5 lower_6 finding findings))))) ∧ ((now 2) = 0 → (wp_X8_found findings (4 : Int32) (fun r7 finding_8 findings_9 => post r7 upper lower finding_8 findings_9))))) ∧ (r1 = 0 → (post (-1 : Int32) upper lower finding findings)))
def rm_X8_bill : Room := { frames := 4, cells := 0, slots := 0, locals := 94 }
theorem k_X8_bill_1 : Cond.fieldLink RX8 22 "IronedQuarrelsModel" "now" "[I" ∈ wsX8_bill := List.mem_of_getElem? (i := 1) (by decide +kernel)
theorem hi_X8_bill_X8 : ∀ w ∈ wsX80, w ∈ wsX8_bill := fun w h => List.mem_cons_of_mem _ (List.mem_append_right _ h)
set_option maxHeartbeats 4000000 in
set_option maxRecDepth 100000 in
theorem c_X8_bill (l : Launch) (D : va_G) (ca : Nat → ClassId) (a : Nat → Nat) (rowSizes : Nat → Int32) (rows : Nat → Int32) (textSizes : Nat → Int32) (texts : Nat → Int32) (now : Nat → Int32) (keeps : Nat → Int32) (kept : Nat → Int32) (asked : Int32) (upper : Int64) (lower : Int64) (finding : Int32) (findings : Nat → Int32) (read : Nat → Int32) (at_ : Int32) (costs : Nat → Int32) (ways : Nat → Int64) (reach : Nat → Int32) (p : Int32) (post : Int32 → (Int64) → (Int64) → (Int32) → (Nat → Int32) → Prop) (hd : va_D (fun _ => True) (W_X8 ca a rowSizes rows textSizes texts now keeps kept asked upper lower finding findings read at_ costs ways reach)) (h : wp_X8_bill now upper lower finding findings p post) : Met l yX8_bill wsX8_bill rm_X8_bill (PcX D ca [.ref (a 0), .int p] (W_X8 ca a rowSizes rows textSizes texts now keeps kept asked upper lower finding findings read at_ costs ways reach)) (wrI (S := (Int64) × (Int64) × (Int32) × (Nat → Int32)) D (W_X8 ca a rowSizes rows textSizes texts now keeps kept asked upper lower finding findings read at_ costs ways reach) (fun zu => W_X8 ca a rowSizes rows textSizes texts now keeps kept asked zu.1 zu.2.1 zu.2.2.1 zu.2.2.2 read at_ costs ways reach) (fun zr zu => post zr zu.1 zu.2.1 zu.2.2.1 zu.2.2.2)) 0 0 (adr (W_X8 ca a rowSizes rows textSizes texts now keeps kept asked upper lower finding findings read at_ costs ways reach)) := by
  refine Met.ofW (cc := cX8_bill) (maxL := 2) (ret := (some .int)) (by decide) rfl ?_
  intro zp ze zs zm za zb zt zc z1 B hml hv
  obtain ⟨rfl, hP, hK⟩ := hv
  have hx := B.exec
  have hb := B.bytes
  have hr := B.returns
  have hts := atoms_spec (ws := wsX8_bill) B.pre
  have hown : zs.vm.findClass RX8 = some zm.cls := findClass_of_methodNamed B.named
  have hlocks := B.notSynchronized
  have hD : va_D (adr (W_X8 ca a rowSizes rows textSizes texts now keeps kept asked upper lower finding findings read at_ costs ways reach)) (W_X8 ca a rowSizes rows textSizes texts now keeps kept asked upper lower finding findings read at_ costs ways reach) := hd.adr
  have hS : va_S (adr (W_X8 ca a rowSizes rows textSizes texts now keeps kept asked upper lower finding findings read at_ costs ways reach)) zs.heap zs.heap [] := va_S.rf
  have hl := lv_entry ([.ref (a 0), .int p]) (n := 2) (Nat.le_of_ble_eq_true rfl)
  rw [lg_entry_eq]
  generalize (lg_sl ([.ref (a 0), .int p]) ++ List.replicate (2 - (lg_sl ([.ref (a 0), .int p])).length) Slot.unset).toArray = ls at hl ⊢
  replace hl : lv_has ls 2 [(0, .ref (a 0)), (1, .int p)] := hl
  show W zp l ze rm_X8_bill zs zm ([.ref (a 0), .int p] : List Value).toArray zb zt zc zs.heap [] 0 0 (MQ zb (wrI (S := (Int64) × (Int64) × (Int32) × (Nat → Int32)) D (W_X8 ca a rowSizes rows textSizes texts now keeps kept asked upper lower finding findings read at_ costs ways reach) (fun zu => W_X8 ca a rowSizes rows textSizes texts now keeps kept asked zu.1 zu.2.1 zu.2.2.1 zu.2.2.2 read at_ costs ways reach) (fun zr zu => post zr zu.1 zu.2.1 zu.2.2.1 zu.2.2.2)) ([.ref (a 0), .int p] : List Value).toArray zs 0 0 (adr (W_X8 ca a rowSizes rows textSizes texts now keeps kept asked upper lower finding findings read at_ costs ways reach))) (F0 zm 0 ls [])
  unfold wp_X8_bill at h
  refine lv_iload_n hx hb dX8_bill_0 rfl (lv_at hl 1 rfl) ?_
  refine rd_callz (va_runS (As := [.int p]) (rest := []) ⟨hx, hb, hml, hown, hts⟩ (c_X8_isPerson l D ca   p _ h) (va_cwS 1 hts gX8_bill_X8_isPerson rfl rfl rfl (by decide +kernel) ⟨Nat.le_of_ble_eq_true rfl, Nat.le_of_ble_eq_true rfl⟩) (PcX.preS hK (fun zk zq zh => by simp at zh)) rfl rfl hl.1 rfl (lv_room (Nat.le_of_ble_eq_true rfl)) dX8_bill_1 ⟨Nat.le_of_ble_eq_true rfl, Nat.le_of_ble_eq_true rfl⟩) (fun r1 h hz_r1 => ?_)
  try dsimp only at h
  refine lv_if_ne (tgt := 9) hx hb dX8_bill_4 (by decide) (fun hc => ?_) (fun hc => ?_)
  · have h := h.1 hc
    refine lv_aload_n hx hb dX8_bill_9 rfl (lv_at hl 0 rfl) ?_
    refine va_get (D := D) (ci := 7) (v := .ref (a 5)) (C := RX8) (T := TX8) (N := 17) hx hb hts hi_X8_bill_X8 hown hK.1 hP 0 rfl rfl 4 (by decide) (hts _ k_X8_bill_1) (fun _ h9 => h9) rfl dX8_bill_10 ?_
    refine lv_iconst (v := (2)) hx hb dX8_bill_13 (by decide) ?_
    refine x_iald (v := now 2) hx hb hK hP 5 rfl (vin_lit (by decide)) rfl dX8_bill_14 ?_
    refine lv_if_ne (tgt := 26) hx hb dX8_bill_15 (by decide) (fun hc => ?_) (fun hc => ?_)
    · have h := h.1 hc
      refine lv_aload_n hx hb dX8_bill_26 rfl (lv_at hl 0 rfl) ?_
      refine lv_aload_n hx hb dX8_bill_27 rfl (lv_at hl 0 rfl) ?_
      refine lv_iconst (v := (1)) hx hb dX8_bill_28 (by decide) ?_
      refine lv_iload_n hx hb dX8_bill_29 rfl (lv_at hl 1 rfl) ?_
      refine lv_ishl hx hb dX8_bill_30 ?_
      refine rd_calli (va_runV (As := [.int ((1 : Int32) <<< (p &&& 31))]) (rest := [.ref (a 0)]) ⟨hx, hb, hml, hown, hts⟩ (c_X8_pricesOf l D ca a rowSizes rows textSizes texts now keeps kept asked upper lower finding findings read at_ costs ways reach ((1 : Int32) <<< (p &&& 31)) _ h) (cwV 1 hts gX8_bill_X8_pricesOf rfl rfl rfl (by decide +kernel) ⟨Nat.le_of_ble_eq_true rfl, Nat.le_of_ble_eq_true rfl⟩) (PcX.preV (q := (RX8, TX8, 17)) (ci := 7) (q0 := 0) hK hP rfl rfl hP) rfl rfl hl.1 rfl (lv_room (Nat.le_of_ble_eq_true rfl)) dX8_bill_31 ⟨Nat.le_of_ble_eq_true rfl, Nat.le_of_ble_eq_true rfl⟩) (fun r2 h => ?_)
      try dsimp only at h
      refine lv_i2l hx hb dX8_bill_34 rfl ?_
      refine lv_aload_n hx hb dX8_bill_35 rfl (lv_at hl 0 rfl) ?_
      refine lv_bipush (v := (63)) hx hb dX8_bill_36 (by decide) ?_
      refine rd_calli (va_runV (As := [.int (63 : Int32)]) (rest := [.long r2.toInt64, .ref (a 0)]) ⟨hx, hb, hml, hown, hts⟩ (c_X8_pricesOf l D ca a rowSizes rows textSizes texts now keeps kept asked upper lower finding findings read at_ costs ways reach (63 : Int32) _ h) (cwV 1 hts gX8_bill_X8_pricesOf rfl rfl rfl (by decide +kernel) ⟨Nat.le_of_ble_eq_true rfl, Nat.le_of_ble_eq_true rfl⟩) (PcX.preV (q := (RX8, TX8, 17)) (ci := 7) (q0 := 0) hK hP rfl rfl hP) rfl rfl hl.1 rfl (lv_room (Nat.le_of_ble_eq_true rfl)) dX8_bill_38 ⟨Nat.le_of_ble_eq_true rfl, Nat.le_of_ble_eq_true rfl⟩) (fun r3 h => ?_)
      try dsimp only at h
      refine lv_i2l hx hb dX8_bill_41 rfl ?_
      refine wr_calli (ws1 := fun zu => W_X8 ca a rowSizes rows textSizes texts now keeps kept asked zu.1 zu.2 finding findings read at_ costs ways reach) (wr := ([] : List Nat).filterMap (fun zi => (W_X8 ca a rowSizes rows textSizes texts now keeps kept asked upper lower finding findings read at_ costs ways reach : va_W)[zi]?)) (n := 13) (va_runV (As := [.long r2.toInt64, .long r3.toInt64]) (rest := []) ⟨hx, hb, hml, hown, hts⟩ (c_X8_fraction l D ca a rowSizes rows textSizes texts now keeps kept asked upper lower finding findings read at_ costs ways reach r2.toInt64 r3.toInt64 _ (hD.subM [0, 1, 2, 3, 4, 5, 6, 7, 8, 9, 10, 11, 12] (by decide) rfl) h) (cwV 2 hts gX8_bill_X8_fraction rfl rfl rfl (by decide +kernel) ⟨Nat.le_of_ble_eq_true rfl, Nat.le_of_ble_eq_true rfl⟩) (PcX.preV (q := (RX8, TX8, 17)) (ci := 7) (q0 := 0) hK hP rfl rfl hP) rfl rfl hl.1 rfl (lv_room (Nat.le_of_ble_eq_true rfl)) dX8_bill_42 ⟨Nat.le_of_ble_eq_true rfl, Nat.le_of_ble_eq_true rfl⟩) hP hD hS [0, 1, 2, 3, 4, 5, 6, 7, 8, 9, 10, 11, 12] [] rfl (fun _ => rfl) rfl (fun _ => rfl) (fun _ => rfl) (fun _ => rfl) (by decide +kernel) (by decide +kernel) (fun r4 zu H locs h hP hD hS => ?_)
      obtain ⟨upper_5, lower_6⟩ := zu
      have hP : va_P D vwCl (W_X8 ca a rowSizes rows textSizes texts now keeps kept asked upper_5 lower_6 finding findings read at_ costs ways reach) H := hP
      have hD : va_D _ (W_X8 ca a rowSizes rows textSizes texts now keeps kept asked upper_5 lower_6 finding findings read at_ costs ways reach) := hD
      try dsimp only at h
      exact W.iret (v := r4) hx hb hr (fun zt ht hW => ⟨⟨r4, (upper_5, lower_6, finding, findings), rfl, h, by rw [ht]; exact hP⟩, hS.F ht⟩) hS.2.2 dX8_bill_45
    · have h := h.2 hc
      refine lv_aload_n hx hb dX8_bill_18 rfl (lv_at hl 0 rfl) ?_
      refine lv_iconst (v := (4)) hx hb dX8_bill_19 (by decide) ?_
      refine wr_calli (ws1 := fun zu => W_X8 ca a rowSizes rows textSizes texts now keeps kept asked upper lower zu.1 zu.2 read at_ costs ways reach) (wr := ([] : List Nat).filterMap (fun zi => (W_X8 ca a rowSizes rows textSizes texts now keeps kept asked upper lower finding findings read at_ costs ways reach : va_W)[zi]?)) (n := 13) (va_runV (As := [.int (4 : Int32)]) (rest := []) ⟨hx, hb, hml, hown, hts⟩ (c_X8_found l D ca a rowSizes rows textSizes texts now keeps kept asked upper lower finding findings read at_ costs ways reach (4 : Int32) _ (hD.subM [0, 1, 2, 3, 4, 5, 6, 7, 8, 9, 10, 11, 12] (by decide) rfl) h) (cwV 1 hts gX8_bill_X8_found rfl rfl rfl (by decide +kernel) ⟨Nat.le_of_ble_eq_true rfl, Nat.le_of_ble_eq_true rfl⟩) (PcX.preV (q := (RX8, TX8, 17)) (ci := 7) (q0 := 0) hK hP rfl rfl hP) rfl rfl hl.1 rfl (lv_room (Nat.le_of_ble_eq_true rfl)) dX8_bill_20 ⟨Nat.le_of_ble_eq_true rfl, Nat.le_of_ble_eq_true rfl⟩) hP hD hS [0, 1, 2, 3, 4, 5, 6, 7, 8, 9, 10, 11, 12] [] rfl (fun _ => rfl) rfl (fun _ => rfl) (fun _ => rfl) (fun _ => rfl) (by decide +kernel) (by decide +kernel) (fun r7 zu H locs h hP hD hS => ?_)
      obtain ⟨finding_8, findings_9⟩ := zu
      have hP : va_P D vwCl (W_X8 ca a rowSizes rows textSizes texts now keeps kept asked upper lower finding_8 findings_9 read at_ costs ways reach) H := hP
      have hD : va_D _ (W_X8 ca a rowSizes rows textSizes texts now keeps kept asked upper lower finding_8 findings_9 read at_ costs ways reach) := hD
      try dsimp only at h
      refine lv_goto (tgt := 45) hx hb dX8_bill_23 (by decide) ?_
      exact W.iret (v := r7) hx hb hr (fun zt ht hW => ⟨⟨r7, (upper, lower, finding_8, findings_9), rfl, h, by rw [ht]; exact hP⟩, hS.F ht⟩) hS.2.2 dX8_bill_45
  · have h := h.2 hc
    refine lv_iconst (v := (-1)) hx hb dX8_bill_7 (by decide) ?_
    exact W.iret (v := (-1 : Int32)) hx hb hr (fun zt ht hW => ⟨⟨(-1 : Int32), (upper, lower, finding, findings), rfl, h, by rw [ht]; exact hP⟩, hS.F ht⟩) hS.2.2 dX8_bill_8

-- IronedQuarrelsModel.colour(II)I
def wb_X8_colour_50 (now : Nat → Int32) (i : Int32) (n : Int32) (post : Int32 → Prop) (s0 : Int32) (s1 : Int32) : Prop :=
  vp_in ((39 : Int32) + i) 115 ∧ post (((now ((39 : Int32) + i).toNatClampNeg) + (n * (s1 + s0))) - ((now ((39 : Int32) + i).toNatClampNeg) + (n * (s1 + s0))) / (6 : Int32) * (6 : Int32))
def wp_X8_colour (now : Nat → Int32) (i : Int32) (n : Int32) (post : Int32 → Prop) : Prop :=
  wp_X8_isSaying now i (fun r1 => (r1 = 0 → (post (-1 : Int32))) ∧ (¬ r1 = 0 → (wp_X8_in n.toInt64 (0 : Int64) (20 : Int64) (fun r2 => (¬ r2 = 0 → (wp_X8_answering now i (now 2) (fun r3 => vp_in ((3 : Int32) + i) 115 ∧ (¬ (now ((3 : Int32) + i).toNatClampNeg) = (5 : Int32) → (wb_X8_colour_50 now i n post (0 : Int32) r3)) ∧ ((now ((3 : Int32) + i).toNatClampNeg) = (5 : Int32) → (wb_X8_colour_50 now i n post (2 : Int32) r3))))) ∧ (r2 = 0 → (post (-1 : Int32)))))))
def rm_X8_colour : Room := { frames := 2, cells := 0, slots := 0, locals := 46 }
theorem k_X8_colour_1 : Cond.constantLong RX8 196 (20) ∈ wsX8_colour := List.mem_of_getElem? (i := 1) (by decide +kernel)
theorem k_X8_colour_2 : Cond.fieldLink RX8 22 "IronedQuarrelsModel" "now" "[I" ∈ wsX8_colour := List.mem_of_getElem? (i := 2) (by decide +kernel)
theorem hi_X8_colour_X8 : ∀ w ∈ wsX80, w ∈ wsX8_colour := fun w h => List.mem_cons_of_mem _ (List.mem_append_right _ h)
set_option maxHeartbeats 4000000 in
set_option maxRecDepth 100000 in
theorem c_X8_colour (l : Launch) (D : va_G) (ca : Nat → ClassId) (a : Nat → Nat) (rowSizes : Nat → Int32) (rows : Nat → Int32) (textSizes : Nat → Int32) (texts : Nat → Int32) (now : Nat → Int32) (keeps : Nat → Int32) (kept : Nat → Int32) (asked : Int32) (upper : Int64) (lower : Int64) (finding : Int32) (findings : Nat → Int32) (read : Nat → Int32) (at_ : Int32) (costs : Nat → Int32) (ways : Nat → Int64) (reach : Nat → Int32) (i : Int32) (n : Int32) (post : Int32 → Prop) (h : wp_X8_colour now i n post) : Met l yX8_colour wsX8_colour rm_X8_colour (PcX D ca [.ref (a 0), .int i, .int n] (W_X8 ca a rowSizes rows textSizes texts now keeps kept asked upper lower finding findings read at_ costs ways reach)) (rdI post) 0 0 (fun _ => False) := by
  refine Met.ofW (cc := cX8_colour) (maxL := 4) (ret := (some .int)) (by decide) rfl ?_
  intro zp ze zs zm za zb zt zc z1 B hml hv
  obtain ⟨rfl, hP, hK⟩ := hv
  have hx := B.exec
  have hb := B.bytes
  have hr := B.returns
  have hts := atoms_spec (ws := wsX8_colour) B.pre
  have hown : zs.vm.findClass RX8 = some zm.cls := findClass_of_methodNamed B.named
  have hlocks := B.notSynchronized
  have hl := lv_entry ([.ref (a 0), .int i, .int n]) (n := 4) (Nat.le_of_ble_eq_true rfl)
  rw [lg_entry_eq]
  generalize (lg_sl ([.ref (a 0), .int i, .int n]) ++ List.replicate (4 - (lg_sl ([.ref (a 0), .int i, .int n])).length) Slot.unset).toArray = ls at hl ⊢
  replace hl : lv_has ls 4 [(0, .ref (a 0)), (1, .int i), (2, .int n)] := hl
  show W zp l ze rm_X8_colour zs zm ([.ref (a 0), .int i, .int n] : List Value).toArray zb zt zc zs.heap [] 0 0 (MQ zb (rdI post) ([.ref (a 0), .int i, .int n] : List Value).toArray zs 0 0 (fun _ => False)) (F0 zm 0 ls [])
  have w_50 : ∀ (s0 : Int32) (s1 : Int32), wb_X8_colour_50 now i n post s0 s1 → ∀ ls : Array Slot, lv_has ls 4 [(0, .ref (a 0)), (1, .int i), (2, .int n)] → W zp l ze rm_X8_colour zs zm ([.ref (a 0), .int i, .int n] : List Value).toArray zb zt zc zs.heap [] 0 0 (MQ zb (rdI post) ([.ref (a 0), .int i, .int n] : List Value).toArray zs 0 0 (fun _ => False)) (F0 zm 50 ls [.int s0, .int s1]) := by
    intro s0 s1 h ls hl
    unfold wb_X8_colour_50 at h
    refine lv_iadd hx hb dX8_colour_50 ?_
    refine lv_istore_n (lv' := [(3, .int (s1 + s0)), (0, .ref (a 0)), (1, .int i), (2, .int n)]) hx hb dX8_colour_51 rfl hl (by decide) rfl (fun ls hl => ?_)
    refine lv_aload_n hx hb dX8_colour_52 rfl (lv_at hl 1 rfl) ?_
    refine va_get (D := D) (ci := 7) (v := .ref (a 5)) (C := RX8) (T := TX8) (N := 17) hx hb hts hi_X8_colour_X8 hown hK.1 hP 0 rfl rfl 4 (by decide) (hts _ k_X8_colour_2) (fun _ h9 => h9) rfl dX8_colour_53 ?_
    refine lv_bipush (v := (39)) hx hb dX8_colour_56 (by decide) ?_
    refine lv_iload_n hx hb dX8_colour_58 rfl (lv_at hl 2 rfl) ?_
    refine lv_iadd hx hb dX8_colour_59 ?_
    obtain ⟨hi, h⟩ := h
    refine x_iald (v := now ((39 : Int32) + i).toNatClampNeg) hx hb hK hP 5 rfl hi rfl dX8_colour_60 ?_
    refine lv_iload_n hx hb dX8_colour_61 rfl (lv_at hl 3 rfl) ?_
    refine lv_iload_n hx hb dX8_colour_62 rfl (lv_at hl 0 rfl) ?_
    refine lv_imul hx hb dX8_colour_63 ?_
    refine lv_iadd hx hb dX8_colour_64 ?_
    refine lv_bipush (v := (6)) hx hb dX8_colour_65 (by decide) ?_
    refine lv_irem hx hb dX8_colour_67 (by decide) ?_
    exact W.iret (v := ((now ((39 : Int32) + i).toNatClampNeg) + (n * (s1 + s0))) - ((now ((39 : Int32) + i).toNatClampNeg) + (n * (s1 + s0))) / (6 : Int32) * (6 : Int32)) hx hb hr (fun zt ht hW => ⟨((now ((39 : Int32) + i).toNatClampNeg) + (n * (s1 + s0))) - ((now ((39 : Int32) + i).toNatClampNeg) + (n * (s1 + s0))) / (6 : Int32) * (6 : Int32), rfl, h, ht⟩) (fun zq hq => absurd hq List.not_mem_nil) dX8_colour_68
  unfold wp_X8_colour at h
  refine lv_aload_n hx hb dX8_colour_0 rfl (lv_at hl 0 rfl) ?_
  refine lv_iload_n hx hb dX8_colour_1 rfl (lv_at hl 1 rfl) ?_
  refine rd_callz (va_runV (As := [.int i]) (rest := []) ⟨hx, hb, hml, hown, hts⟩ (c_X8_isSaying l D ca a rowSizes rows textSizes texts now keeps kept asked upper lower finding findings read at_ costs ways reach i _ h) (cwV 1 hts gX8_colour_X8_isSaying rfl rfl rfl (by decide +kernel) ⟨Nat.le_of_ble_eq_true rfl, Nat.le_of_ble_eq_true rfl⟩) (PcX.preV (q := (RX8, TX8, 17)) (ci := 7) (q0 := 0) hK hP rfl rfl hP) rfl rfl hl.1 rfl (lv_room (Nat.le_of_ble_eq_true rfl)) dX8_colour_2 ⟨Nat.le_of_ble_eq_true rfl, Nat.le_of_ble_eq_true rfl⟩) (fun r1 h hz_r1 => ?_)
  try dsimp only at h
  refine lv_if_eq (tgt := 20) hx hb dX8_colour_5 (by decide) (fun hc => ?_) (fun hc => ?_)
  · have h := h.1 hc
    refine lv_iconst (v := (-1)) hx hb dX8_colour_20 (by decide) ?_
    exact W.iret (v := (-1 : Int32)) hx hb hr (fun zt ht hW => ⟨(-1 : Int32), rfl, h, ht⟩) (fun zq hq => absurd hq List.not_mem_nil) dX8_colour_21
  · have h := h.2 hc
    refine lv_iload_n hx hb dX8_colour_8 rfl (lv_at hl 2 rfl) ?_
    refine lv_i2l hx hb dX8_colour_9 rfl ?_
    refine lv_lconst (v := (0)) hx hb dX8_colour_10 (by decide) ?_
    refine lv_ldc2 (v := (20)) hx hb hown (hts _ k_X8_colour_1) dX8_colour_11 ?_
    refine rd_callz (va_runS (As := [.long n.toInt64, .long (0 : Int64), .long (20 : Int64)]) (rest := []) ⟨hx, hb, hml, hown, hts⟩ (c_X8_in l D ca   n.toInt64 (0 : Int64) (20 : Int64) _ h) (va_cwS 3 hts gX8_colour_X8_in rfl rfl rfl (by decide +kernel) ⟨Nat.le_of_ble_eq_true rfl, Nat.le_of_ble_eq_true rfl⟩) (PcX.preS hK (fun zk zq zh => by simp at zh)) rfl rfl hl.1 rfl (lv_room (Nat.le_of_ble_eq_true rfl)) dX8_colour_14 ⟨Nat.le_of_ble_eq_true rfl, Nat.le_of_ble_eq_true rfl⟩) (fun r2 h hz_r2 => ?_)
    try dsimp only at h
    refine lv_if_ne (tgt := 22) hx hb dX8_colour_17 (by decide) (fun hc => ?_) (fun hc => ?_)
    · have h := h.1 hc
      refine lv_aload_n hx hb dX8_colour_22 rfl (lv_at hl 0 rfl) ?_
      refine lv_iload_n hx hb dX8_colour_23 rfl (lv_at hl 1 rfl) ?_
      refine lv_aload_n hx hb dX8_colour_24 rfl (lv_at hl 0 rfl) ?_
      refine va_get (D := D) (ci := 7) (v := .ref (a 5)) (C := RX8) (T := TX8) (N := 17) hx hb hts hi_X8_colour_X8 hown hK.1 hP 0 rfl rfl 4 (by decide) (hts _ k_X8_colour_2) (fun _ h9 => h9) rfl dX8_colour_25 ?_
      refine lv_iconst (v := (2)) hx hb dX8_colour_28 (by decide) ?_
      refine x_iald (v := now 2) hx hb hK hP 5 rfl (vin_lit (by decide)) rfl dX8_colour_29 ?_
      refine rd_calli (va_runV (As := [.int i, .int (now 2)]) (rest := []) ⟨hx, hb, hml, hown, hts⟩ (c_X8_answering l D ca a rowSizes rows textSizes texts now keeps kept asked upper lower finding findings read at_ costs ways reach i (now 2) _ h) (cwV 2 hts gX8_colour_X8_answering rfl rfl rfl (by decide +kernel) ⟨Nat.le_of_ble_eq_true rfl, Nat.le_of_ble_eq_true rfl⟩) (PcX.preV (q := (RX8, TX8, 17)) (ci := 7) (q0 := 0) hK hP rfl rfl hP) rfl rfl hl.1 rfl (lv_room (Nat.le_of_ble_eq_true rfl)) dX8_colour_30 ⟨Nat.le_of_ble_eq_true rfl, Nat.le_of_ble_eq_true rfl⟩) (fun r3 h => ?_)
      try dsimp only at h
      refine lv_aload_n hx hb dX8_colour_33 rfl (lv_at hl 0 rfl) ?_
      refine va_get (D := D) (ci := 7) (v := .ref (a 5)) (C := RX8) (T := TX8) (N := 17) hx hb hts hi_X8_colour_X8 hown hK.1 hP 0 rfl rfl 4 (by decide) (hts _ k_X8_colour_2) (fun _ h9 => h9) rfl dX8_colour_34 ?_
      refine lv_iconst (v := (3)) hx hb dX8_colour_37 (by decide) ?_
      refine lv_iload_n hx hb dX8_colour_38 rfl (lv_at hl 1 rfl) ?_
      refine lv_iadd hx hb dX8_colour_39 ?_
      obtain ⟨hi, h⟩ := h
      refine x_iald (v := now ((3 : Int32) + i).toNatClampNeg) hx hb hK hP 5 rfl hi rfl dX8_colour_40 ?_
      refine lv_iconst (v := (5)) hx hb dX8_colour_41 (by decide) ?_
      refine lv_icmp_ne (tgt := 49) hx hb dX8_colour_42 (by decide) (fun hc => ?_) (fun hc => ?_)
      · have h := h.1 hc
        refine lv_iconst (v := (0)) hx hb dX8_colour_49 (by decide) ?_
        exact w_50  (0 : Int32) r3 h ls (lv_sub hl [0, 1, 2] rfl)
      · have h := h.2 hc
        refine lv_iconst (v := (2)) hx hb dX8_colour_45 (by decide) ?_
        refine lv_goto (tgt := 50) hx hb dX8_colour_46 (by decide) ?_
        exact w_50  (2 : Int32) r3 h ls (lv_sub hl [0, 1, 2] rfl)
    · have h := h.2 hc
      refine lv_iconst (v := (-1)) hx hb dX8_colour_20 (by decide) ?_
      exact W.iret (v := (-1 : Int32)) hx hb hr (fun zt ht hW => ⟨(-1 : Int32), rfl, h, ht⟩) (fun zq hq => absurd hq List.not_mem_nil) dX8_colour_21

-- IronedQuarrelsModel.lots(II)I
def wb_X8_lots_108 (K93 : (Nat → Int32) → (Int64) → (Int32) → (Int32) → (Int32) → (Int32) → (Int32) → Prop) (now : Nat → Int32) (x3 : Int64) (x5 : Int32) (x6 : Int32) (x7 : Int32) (x8 : Int32) (x9 : Int32) : Prop :=
  wp_X8_has x6 x9 (fun r6 => (r6 = 0 → (K93 now x3 x5 x6 x7 (x8 - (0 : Int32)) (x9 + 1))) ∧ (¬ r6 = 0 → (K93 now x3 x5 x6 x7 (x8 - (1 : Int32)) (x9 + 1))))
def wb_X8_lots_93 (K47 : (Nat → Int32) → (Int64) → (Int32) → (Int32) → (Int32) → Prop) (K93 : (Nat → Int32) → (Int64) → (Int32) → (Int32) → (Int32) → (Int32) → (Int32) → Prop) (now : Nat → Int32) (x3 : Int64) (x5 : Int32) (x6 : Int32) (x7 : Int32) (x8 : Int32) (x9 : Int32) : Prop :=
  wp_X8_has x6 x9 (fun r5 => (r5 = 0 → (wb_X8_lots_108 K93 now x3 x5 x6 x7 x8 x9)) ∧ (¬ r5 = 0 → ((x8 ≤ 0 → (wp_X8_unsays now x9 (fun r7 now_8 => wp_X8_allThatMay now_8 (now_8 2) (fun r9 => K47 now_8 x3 (x5 + r7) r9 (x7 + 1))))) ∧ (¬ x8 ≤ 0 → (wb_X8_lots_108 K93 now x3 x5 x6 x7 x8 x9)))))
def wl_X8_lots_93 (K47 : (Nat → Int32) → (Int64) → (Int32) → (Int32) → (Int32) → Prop) : Nat → (Nat → Int32) → (Int64) → (Int32) → (Int32) → (Int32) → (Int32) → (Int32) → Prop
  | 0 => fun _ _ _ _ _ _ _ => False
  | zn + 1 => wb_X8_lots_93 K47 (wl_X8_lots_93 K47 zn)
def wb_X8_lots_47 (n : Int32) (post : Int32 → (Nat → Int32) → Prop) (K47 : (Nat → Int32) → (Int64) → (Int32) → (Int32) → (Int32) → Prop) (now : Nat → Int32) (x3 : Int64) (x5 : Int32) (x6 : Int32) (x7 : Int32) : Prop :=
  (n ≤ x7 → (post x5 now)) ∧ (¬ n ≤ x7 → ((x6 = 0 → (post x5 now)) ∧ (¬ x6 = 0 → (((40 : Int32) ≤ (now 1) → (post x5 now)) ∧ (¬ (40 : Int32) ≤ (now 1) → (wp_X8_bits x6 (fun r4 => ¬ r4.toInt64 = 0 ∧ ∃ zn, wl_X8_lots_93 K47 zn now (((48271 : Int64) * x3) - ((48271 : Int64) * x3) / (2147483647 : Int64) * (2147483647 : Int64)) x5 x6 x7 (((((48271 : Int64) * x3) - ((48271 : Int64) * x3) / (2147483647 : Int64) * (2147483647 : Int64)) - (((48271 : Int64) * x3) - ((48271 : Int64) * x3) / (2147483647 : Int64) * (2147483647 : Int64)) / r4.toInt64 * r4.toInt64).toInt32) (0 : Int32))))))))
def wl_X8_lots_47 (n : Int32) (post : Int32 → (Nat → Int32) → Prop) : Nat → (Nat → Int32) → (Int64) → (Int32) → (Int32) → (Int32) → Prop
  | 0 => fun _ _ _ _ _ => False
  | zn + 1 => wb_X8_lots_47 n post (wl_X8_lots_47 n post zn)
def wp_X8_lots (now : Nat → Int32) (n : Int32) (seed : Int32) (post : Int32 → (Nat → Int32) → Prop) : Prop :=
  wp_X8_in n.toInt64 (1 : Int64) (12 : Int64) (fun r1 => (r1 = 0 → (post (-1 : Int32) now)) ∧ (¬ r1 = 0 → (wp_X8_in seed.toInt64 (1 : Int64) (2147483646 : Int64) (fun r2 => (¬ r2 = 0 → (wp_X8_allThatMay now (now 2) (fun r3 => ∃ zn, wl_X8_lots_47 n post zn now seed.toInt64 (0 : Int32) r3 (0 : Int32)))) ∧ (r2 = 0 → (post (-1 : Int32) now))))))
def rm_X8_lots : Room := { frames := 4, cells := 0, slots := 0, locals := 92 }
theorem k_X8_lots_1 : Cond.constantLong RX8 198 (12) ∈ wsX8_lots := List.mem_of_getElem? (i := 1) (by decide +kernel)
theorem k_X8_lots_2 : Cond.constantLong RX8 200 (2147483646) ∈ wsX8_lots := List.mem_of_getElem? (i := 2) (by decide +kernel)
theorem k_X8_lots_3 : Cond.fieldLink RX8 22 "IronedQuarrelsModel" "now" "[I" ∈ wsX8_lots := List.mem_of_getElem? (i := 3) (by decide +kernel)
theorem k_X8_lots_4 : Cond.constantLong RX8 202 (48271) ∈ wsX8_lots := List.mem_of_getElem? (i := 4) (by decide +kernel)
theorem k_X8_lots_5 : Cond.constantLong RX8 204 (2147483647) ∈ wsX8_lots := List.mem_of_getElem? (i := 5) (by decide +kernel)
theorem hi_X8_lots_X8 : ∀ w ∈ wsX80, w ∈ wsX8_lots := fun w h => List.mem_cons_of_mem _ (List.mem_append_right _ h)
set_option maxHeartbeats 4000000 in
set_option maxRecDepth 100000 in
theorem c_X8_lots (l : Launch) (D : va_G) (ca : Nat → ClassId) (a : Nat → Nat) (rowSizes : Nat → Int32) (rows : Nat → Int32) (textSizes : Nat → Int32) (texts : Nat → Int32) (now : Nat → Int32) (keeps : Nat → Int32) (kept : Nat → Int32) (asked : Int32) (upper : Int64) (lower : Int64) (finding : Int32) (findings : Nat → Int32) (read : Nat → Int32) (at_ : Int32) (costs : Nat → Int32) (ways : Nat → Int64) (reach : Nat → Int32) (n : Int32) (seed : Int32) (post : Int32 → (Nat → Int32) → Prop) (hd : va_D (fun _ => True) (W_X8 ca a rowSizes rows textSizes texts now keeps kept asked upper lower finding findings read at_ costs ways reach)) (h : wp_X8_lots now n seed post) : Met l yX8_lots wsX8_lots rm_X8_lots (PcX D ca [.ref (a 0), .int n, .int seed] (W_X8 ca a rowSizes rows textSizes texts now keeps kept asked upper lower finding findings read at_ costs ways reach)) (wrI (S := (Nat → Int32)) D (W_X8 ca a rowSizes rows textSizes texts now keeps kept asked upper lower finding findings read at_ costs ways reach) (fun zu => W_X8 ca a rowSizes rows textSizes texts zu keeps kept asked upper lower finding findings read at_ costs ways reach) (fun zr zu => post zr zu)) 0 0 (adr (W_X8 ca a rowSizes rows textSizes texts now keeps kept asked upper lower finding findings read at_ costs ways reach)) := by
  refine Met.ofW (cc := cX8_lots) (maxL := 10) (ret := (some .int)) (by decide) rfl ?_
  intro zp ze zs zm za zb zt zc z1 B hml hv
  obtain ⟨rfl, hP, hK⟩ := hv
  have hx := B.exec
  have hb := B.bytes
  have hr := B.returns
  have hts := atoms_spec (ws := wsX8_lots) B.pre
  have hown : zs.vm.findClass RX8 = some zm.cls := findClass_of_methodNamed B.named
  have hlocks := B.notSynchronized
  have hD : va_D (adr (W_X8 ca a rowSizes rows textSizes texts now keeps kept asked upper lower finding findings read at_ costs ways reach)) (W_X8 ca a rowSizes rows textSizes texts now keeps kept asked upper lower finding findings read at_ costs ways reach) := hd.adr
  have hS : va_S (adr (W_X8 ca a rowSizes rows textSizes texts now keeps kept asked upper lower finding findings read at_ costs ways reach)) zs.heap zs.heap [] := va_S.rf
  have hl := lv_entry ([.ref (a 0), .int n, .int seed]) (n := 10) (Nat.le_of_ble_eq_true rfl)
  rw [lg_entry_eq]
  generalize (lg_sl ([.ref (a 0), .int n, .int seed]) ++ List.replicate (10 - (lg_sl ([.ref (a 0), .int n, .int seed])).length) Slot.unset).toArray = ls at hl ⊢
  replace hl : lv_has ls 10 [(0, .ref (a 0)), (1, .int n), (2, .int seed)] := hl
  show W zp l ze rm_X8_lots zs zm ([.ref (a 0), .int n, .int seed] : List Value).toArray zb zt zc zs.heap [] 0 0 (MQ zb (wrI (S := (Nat → Int32)) D (W_X8 ca a rowSizes rows textSizes texts now keeps kept asked upper lower finding findings read at_ costs ways reach) (fun zu => W_X8 ca a rowSizes rows textSizes texts zu keeps kept asked upper lower finding findings read at_ costs ways reach) (fun zr zu => post zr zu)) ([.ref (a 0), .int n, .int seed] : List Value).toArray zs 0 0 (adr (W_X8 ca a rowSizes rows textSizes texts now keeps kept asked upper lower finding findings read at_ costs ways reach))) (F0 zm 0 ls [])
  have w_108 : ∀ (K93 : (Nat → Int32) → (Int64) → (Int32) → (Int32) → (Int32) → (Int32) → (Int32) → Prop) (ih93 : ∀ (now : Nat → Int32) (x3 : Int64) (x5 : Int32) (x6 : Int32) (x7 : Int32) (x8 : Int32) (x9 : Int32), K93 now x3 x5 x6 x7 x8 x9 → ∀ (H : Heap) (locs : List Loc), va_P D vwCl (W_X8 ca a rowSizes rows textSizes texts now keeps kept asked upper lower finding findings read at_ costs ways reach) H → va_D (adr (W_X8 ca a rowSizes rows textSizes texts now keeps kept asked upper lower finding findings read at_ costs ways reach)) (W_X8 ca a rowSizes rows textSizes texts now keeps kept asked upper lower finding findings read at_ costs ways reach) → va_S (adr (W_X8 ca a rowSizes rows textSizes texts now keeps kept asked upper lower finding findings read at_ costs ways reach)) zs.heap H locs → ∀ ls : Array Slot, lv_has ls 10 [(0, .ref (a 0)), (1, .int n), (3, .long x3), (5, .int x5), (6, .int x6), (7, .int x7), (8, .int x8), (9, .int x9)] → W zp l ze rm_X8_lots zs zm ([.ref (a 0), .int n, .int seed] : List Value).toArray zb zt zc H locs 0 0 (MQ zb (wrI (S := (Nat → Int32)) D (W_X8 ca a rowSizes rows textSizes texts now keeps kept asked upper lower finding findings read at_ costs ways reach) (fun zu => W_X8 ca a rowSizes rows textSizes texts zu keeps kept asked upper lower finding findings read at_ costs ways reach) (fun zr zu => post zr zu)) ([.ref (a 0), .int n, .int seed] : List Value).toArray zs 0 0 (adr (W_X8 ca a rowSizes rows textSizes texts now keeps kept asked upper lower finding findings read at_ costs ways reach))) (F0 zm 93 ls [])) (now : Nat → Int32) (x3 : Int64) (x5 : Int32) (x6 : Int32) (x7 : Int32) (x8 : Int32) (x9 : Int32), wb_X8_lots_108 K93 now x3 x5 x6 x7 x8 x9 → ∀ (H : Heap) (locs : List Loc), va_P D vwCl (W_X8 ca a rowSizes rows textSizes texts now keeps kept asked upper lower finding findings read at_ costs ways reach) H → va_D (adr (W_X8 ca a rowSizes rows textSizes texts now keeps kept asked upper lower finding findings read at_ costs ways reach)) (W_X8 ca a rowSizes rows textSizes texts now keeps kept asked upper lower finding findings read at_ costs ways reach) → va_S (adr (W_X8 ca a rowSizes rows textSizes texts now keeps kept asked upper lower finding findings read at_ costs ways reach)) zs.heap H locs → ∀ ls : Array Slot, lv_has ls 10 [(0, .ref (a 0)), (1, .int n), (3, .long x3), (5, .int x5), (6, .int x6), (7, .int x7), (8, .int x8), (9, .int x9)] → W zp l ze rm_X8_lots zs zm ([.ref (a 0), .int n, .int seed] : List Value).toArray zb zt zc H locs 0 0 (MQ zb (wrI (S := (Nat → Int32)) D (W_X8 ca a rowSizes rows textSizes texts now keeps kept asked upper lower finding findings read at_ costs ways reach) (fun zu => W_X8 ca a rowSizes rows textSizes texts zu keeps kept asked upper lower finding findings read at_ costs ways reach) (fun zr zu => post zr zu)) ([.ref (a 0), .int n, .int seed] : List Value).toArray zs 0 0 (adr (W_X8 ca a rowSizes rows textSizes texts now keeps kept asked upper lower finding findings read at_ costs ways reach))) (F0 zm 108 ls []) := by
    intro K93 ih93 now x3 x5 x6 x7 x8 x9 h H locs hP hD hS ls hl
    unfold wb_X8_lots_108 at h
    refine lv_iload hx hb dX8_lots_108 (lv_at hl 6 rfl) ?_
    refine lv_iload hx hb dX8_lots_110 (lv_at hl 4 rfl) ?_
    refine lv_iload hx hb dX8_lots_112 (lv_at hl 7 rfl) ?_
    refine rd_callz (va_runS (As := [.int x6, .int x9]) (rest := [.int x8]) ⟨hx, hb, hml, hown, hts⟩ (c_X8_has l D ca   x6 x9 _ h) (va_cwS 2 hts gX8_lots_X8_has rfl rfl rfl (by decide +kernel) ⟨Nat.le_of_ble_eq_true rfl, Nat.le_of_ble_eq_true rfl⟩) (PcX.preS hK (fun zk zq zh => by simp at zh)) rfl rfl hl.1 rfl (lv_room (Nat.le_of_ble_eq_true rfl)) dX8_lots_114 ⟨Nat.le_of_ble_eq_true rfl, Nat.le_of_ble_eq_true rfl⟩) (fun r6 h hz_r6 => ?_)
    try dsimp only at h
    refine lv_if_eq (tgt := 124) hx hb dX8_lots_117 (by decide) (fun hc => ?_) (fun hc => ?_)
    · have h := h.1 hc
      refine lv_iconst (v := (0)) hx hb dX8_lots_124 (by decide) ?_
      refine lv_isub hx hb dX8_lots_125 ?_
      refine lv_istore (lv' := [(8, .int (x8 - (0 : Int32))), (0, .ref (a 0)), (1, .int n), (3, .long x3), (5, .int x5), (6, .int x6), (7, .int x7), (9, .int x9)]) hx hb dX8_lots_126 hl (by decide) rfl (fun ls hl => ?_)
      refine lv_iinc (v := x9 + 1) (lv' := [(9, .int (x9 + 1)), (8, .int (x8 - (0 : Int32))), (0, .ref (a 0)), (1, .int n), (3, .long x3), (5, .int x5), (6, .int x6), (7, .int x7)]) hx hb dX8_lots_128 hl (k := 7) rfl rfl (by decide) rfl (fun ls hl => ?_)
      refine lv_goto (tgt := 93) hx hb dX8_lots_131 (by decide) ?_
      exact ih93 now x3 x5 x6 x7 (x8 - (0 : Int32)) (x9 + 1) h _ _ hP hD hS ls (lv_sub hl [2, 3, 4, 5, 6, 7, 1, 0] rfl)
    · have h := h.2 hc
      refine lv_iconst (v := (1)) hx hb dX8_lots_120 (by decide) ?_
      refine lv_goto (tgt := 125) hx hb dX8_lots_121 (by decide) ?_
      refine lv_isub hx hb dX8_lots_125 ?_
      refine lv_istore (lv' := [(8, .int (x8 - (1 : Int32))), (0, .ref (a 0)), (1, .int n), (3, .long x3), (5, .int x5), (6, .int x6), (7, .int x7), (9, .int x9)]) hx hb dX8_lots_126 hl (by decide) rfl (fun ls hl => ?_)
      refine lv_iinc (v := x9 + 1) (lv' := [(9, .int (x9 + 1)), (8, .int (x8 - (1 : Int32))), (0, .ref (a 0)), (1, .int n), (3, .long x3), (5, .int x5), (6, .int x6), (7, .int x7)]) hx hb dX8_lots_128 hl (k := 7) rfl rfl (by decide) rfl (fun ls hl => ?_)
      refine lv_goto (tgt := 93) hx hb dX8_lots_131 (by decide) ?_
      exact ih93 now x3 x5 x6 x7 (x8 - (1 : Int32)) (x9 + 1) h _ _ hP hD hS ls (lv_sub hl [2, 3, 4, 5, 6, 7, 1, 0] rfl)
  have w_93 : ∀ (K47 : (Nat → Int32) → (Int64) → (Int32) → (Int32) → (Int32) → Prop) (ih47 : ∀ (now : Nat → Int32) (x3 : Int64) (x5 : Int32) (x6 : Int32) (x7 : Int32), K47 now x3 x5 x6 x7 → ∀ (H : Heap) (locs : List Loc), va_P D vwCl (W_X8 ca a rowSizes rows textSizes texts now keeps kept asked upper lower finding findings read at_ costs ways reach) H → va_D (adr (W_X8 ca a rowSizes rows textSizes texts now keeps kept asked upper lower finding findings read at_ costs ways reach)) (W_X8 ca a rowSizes rows textSizes texts now keeps kept asked upper lower finding findings read at_ costs ways reach) → va_S (adr (W_X8 ca a rowSizes rows textSizes texts now keeps kept asked upper lower finding findings read at_ costs ways reach)) zs.heap H locs → ∀ ls : Array Slot, lv_has ls 10 [(0, .ref (a 0)), (1, .int n), (3, .long x3), (5, .int x5), (6, .int x6), (7, .int x7)] → W zp l ze rm_X8_lots zs zm ([.ref (a 0), .int n, .int seed] : List Value).toArray zb zt zc H locs 0 0 (MQ zb (wrI (S := (Nat → Int32)) D (W_X8 ca a rowSizes rows textSizes texts now keeps kept asked upper lower finding findings read at_ costs ways reach) (fun zu => W_X8 ca a rowSizes rows textSizes texts zu keeps kept asked upper lower finding findings read at_ costs ways reach) (fun zr zu => post zr zu)) ([.ref (a 0), .int n, .int seed] : List Value).toArray zs 0 0 (adr (W_X8 ca a rowSizes rows textSizes texts now keeps kept asked upper lower finding findings read at_ costs ways reach))) (F0 zm 47 ls [])) (zn : Nat) (now : Nat → Int32) (x3 : Int64) (x5 : Int32) (x6 : Int32) (x7 : Int32) (x8 : Int32) (x9 : Int32), wl_X8_lots_93 K47 zn now x3 x5 x6 x7 x8 x9 → ∀ (H : Heap) (locs : List Loc), va_P D vwCl (W_X8 ca a rowSizes rows textSizes texts now keeps kept asked upper lower finding findings read at_ costs ways reach) H → va_D (adr (W_X8 ca a rowSizes rows textSizes texts now keeps kept asked upper lower finding findings read at_ costs ways reach)) (W_X8 ca a rowSizes rows textSizes texts now keeps kept asked upper lower finding findings read at_ costs ways reach) → va_S (adr (W_X8 ca a rowSizes rows textSizes texts now keeps kept asked upper lower finding findings read at_ costs ways reach)) zs.heap H locs → ∀ ls : Array Slot, lv_has ls 10 [(0, .ref (a 0)), (1, .int n), (3, .long x3), (5, .int x5), (6, .int x6), (7, .int x7), (8, .int x8), (9, .int x9)] → W zp l ze rm_X8_lots zs zm ([.ref (a 0), .int n, .int seed] : List Value).toArray zb zt zc H locs 0 0 (MQ zb (wrI (S := (Nat → Int32)) D (W_X8 ca a rowSizes rows textSizes texts now keeps kept asked upper lower finding findings read at_ costs ways reach) (fun zu => W_X8 ca a rowSizes rows textSizes texts zu keeps kept asked upper lower finding findings read at_ costs ways reach) (fun zr zu => post zr zu)) ([.ref (a 0), .int n, .int seed] : List Value).toArray zs 0 0 (adr (W_X8 ca a rowSizes rows textSizes texts now keeps kept asked upper lower finding findings read at_ costs ways reach))) (F0 zm 93 ls []) := by
    intro K47 ih47 zn
    induction zn with
    | zero => intro now x3 x5 x6 x7 x8 x9 h; exact h.elim
    | succ zn ih93 =>
      intro now x3 x5 x6 x7 x8 x9 h H locs hP hD hS ls hl
      replace h : wb_X8_lots_93 K47 (wl_X8_lots_93 K47 zn) now x3 x5 x6 x7 x8 x9 := h
      unfold wb_X8_lots_93 at h
      refine lv_iload hx hb dX8_lots_93 (lv_at hl 4 rfl) ?_
      refine lv_iload hx hb dX8_lots_95 (lv_at hl 7 rfl) ?_
      refine rd_callz (va_runS (As := [.int x6, .int x9]) (rest := []) ⟨hx, hb, hml, hown, hts⟩ (c_X8_has l D ca   x6 x9 _ h) (va_cwS 2 hts gX8_lots_X8_has rfl rfl rfl (by decide +kernel) ⟨Nat.le_of_ble_eq_true rfl, Nat.le_of_ble_eq_true rfl⟩) (PcX.preS hK (fun zk zq zh => by simp at zh)) rfl rfl hl.1 rfl (lv_room (Nat.le_of_ble_eq_true rfl)) dX8_lots_97 ⟨Nat.le_of_ble_eq_true rfl, Nat.le_of_ble_eq_true rfl⟩) (fun r5 h hz_r5 => ?_)
      try dsimp only at h
      refine lv_if_eq (tgt := 108) hx hb dX8_lots_100 (by decide) (fun hc => ?_) (fun hc => ?_)
      · have h := h.1 hc
        exact w_108 _ ih93 now x3 x5 x6 x7 x8 x9 h _ _ hP hD hS ls (lv_sub hl [0, 1, 2, 3, 4, 5, 6, 7] rfl)
      · have h := h.2 hc
        refine lv_iload hx hb dX8_lots_103 (lv_at hl 6 rfl) ?_
        refine lv_if_le (tgt := 134) hx hb dX8_lots_105 (by decide) (fun hc => ?_) (fun hc => ?_)
        · have h := h.1 hc
          refine lv_iload hx hb dX8_lots_134 (lv_at hl 3 rfl) ?_
          refine lv_aload_n hx hb dX8_lots_136 rfl (lv_at hl 0 rfl) ?_
          refine lv_iload hx hb dX8_lots_137 (lv_at hl 7 rfl) ?_
          refine wr_calli (ws1 := fun zu => W_X8 ca a rowSizes rows textSizes texts zu keeps kept asked upper lower finding findings read at_ costs ways reach) (wr := ([] : List Nat).filterMap (fun zi => (W_X8 ca a rowSizes rows textSizes texts now keeps kept asked upper lower finding findings read at_ costs ways reach : va_W)[zi]?)) (n := 13) (va_runV (As := [.int x9]) (rest := [.int x5]) ⟨hx, hb, hml, hown, hts⟩ (c_X8_unsays l D ca a rowSizes rows textSizes texts now keeps kept asked upper lower finding findings read at_ costs ways reach x9 _ (hD.subM [0, 1, 2, 3, 4, 5, 6, 7, 8, 9, 10, 11, 12] (by decide) rfl) h) (cwV 1 hts gX8_lots_X8_unsays rfl rfl rfl (by decide +kernel) ⟨Nat.le_of_ble_eq_true rfl, Nat.le_of_ble_eq_true rfl⟩) (PcX.preV (q := (RX8, TX8, 17)) (ci := 7) (q0 := 0) hK hP rfl rfl hP) rfl rfl hl.1 rfl (lv_room (Nat.le_of_ble_eq_true rfl)) dX8_lots_139 ⟨Nat.le_of_ble_eq_true rfl, Nat.le_of_ble_eq_true rfl⟩) hP hD hS [0, 1, 2, 3, 4, 5, 6, 7, 8, 9, 10, 11, 12] [] rfl (fun _ => rfl) rfl (fun _ => rfl) (fun _ => rfl) (fun _ => rfl) (by decide +kernel) (by decide +kernel) (fun r7 zu H locs h hP hD hS => ?_)
          obtain ⟨now_8, rfl⟩ : ∃ zz, zz = zu := ⟨zu, rfl⟩
          have hP : va_P D vwCl (W_X8 ca a rowSizes rows textSizes texts now_8 keeps kept asked upper lower finding findings read at_ costs ways reach) H := hP
          have hD : va_D _ (W_X8 ca a rowSizes rows textSizes texts now_8 keeps kept asked upper lower finding findings read at_ costs ways reach) := hD
          try dsimp only at h
          refine lv_iadd hx hb dX8_lots_142 ?_
          refine lv_istore (lv' := [(5, .int (x5 + r7)), (0, .ref (a 0)), (1, .int n), (3, .long x3), (6, .int x6), (7, .int x7), (8, .int x8), (9, .int x9)]) hx hb dX8_lots_143 hl (by decide) rfl (fun ls hl => ?_)
          refine lv_aload_n hx hb dX8_lots_145 rfl (lv_at hl 1 rfl) ?_
          refine lv_aload_n hx hb dX8_lots_146 rfl (lv_at hl 1 rfl) ?_
          refine va_get (D := D) (ci := 7) (v := .ref (a 5)) (C := RX8) (T := TX8) (N := 17) hx hb hts hi_X8_lots_X8 hown hK.1 hP 0 rfl rfl 4 (by decide) (hts _ k_X8_lots_3) (fun _ h9 => h9) rfl dX8_lots_147 ?_
          refine lv_iconst (v := (2)) hx hb dX8_lots_150 (by decide) ?_
          refine x_iald (v := now_8 2) hx hb hK hP 5 rfl (vin_lit (by decide)) rfl dX8_lots_151 ?_
          refine rd_calli (va_runV (As := [.int (now_8 2)]) (rest := []) ⟨hx, hb, hml, hown, hts⟩ (c_X8_allThatMay l D ca a rowSizes rows textSizes texts now_8 keeps kept asked upper lower finding findings read at_ costs ways reach (now_8 2) _ h) (cwV 1 hts gX8_lots_X8_allThatMay rfl rfl rfl (by decide +kernel) ⟨Nat.le_of_ble_eq_true rfl, Nat.le_of_ble_eq_true rfl⟩) (PcX.preV (q := (RX8, TX8, 17)) (ci := 7) (q0 := 0) hK hP rfl rfl hP) rfl rfl hl.1 rfl (lv_room (Nat.le_of_ble_eq_true rfl)) dX8_lots_152 ⟨Nat.le_of_ble_eq_true rfl, Nat.le_of_ble_eq_true rfl⟩) (fun r9 h => ?_)
          try dsimp only at h
          refine lv_istore (lv' := [(6, .int r9), (5, .int (x5 + r7)), (0, .ref (a 0)), (1, .int n), (3, .long x3), (7, .int x7), (8, .int x8), (9, .int x9)]) hx hb dX8_lots_155 hl (by decide) rfl (fun ls hl => ?_)
          refine lv_iinc (v := x7 + 1) (lv' := [(7, .int (x7 + 1)), (6, .int r9), (5, .int (x5 + r7)), (0, .ref (a 0)), (1, .int n), (3, .long x3), (8, .int x8), (9, .int x9)]) hx hb dX8_lots_157 hl (k := 5) rfl rfl (by decide) rfl (fun ls hl => ?_)
          refine lv_goto (tgt := 47) hx hb dX8_lots_160 (by decide) ?_
          exact ih47 now_8 x3 (x5 + r7) r9 (x7 + 1) h _ _ hP hD hS ls (lv_sub hl [3, 4, 5, 2, 1, 0] rfl)
        · have h := h.2 hc
          exact w_108 _ ih93 now x3 x5 x6 x7 x8 x9 h _ _ hP hD hS ls (lv_sub hl [0, 1, 2, 3, 4, 5, 6, 7] rfl)
  have w_47 : ∀ (zn : Nat) (now : Nat → Int32) (x3 : Int64) (x5 : Int32) (x6 : Int32) (x7 : Int32), wl_X8_lots_47 n post zn now x3 x5 x6 x7 → ∀ (H : Heap) (locs : List Loc), va_P D vwCl (W_X8 ca a rowSizes rows textSizes texts now keeps kept asked upper lower finding findings read at_ costs ways reach) H → va_D (adr (W_X8 ca a rowSizes rows textSizes texts now keeps kept asked upper lower finding findings read at_ costs ways reach)) (W_X8 ca a rowSizes rows textSizes texts now keeps kept asked upper lower finding findings read at_ costs ways reach) → va_S (adr (W_X8 ca a rowSizes rows textSizes texts now keeps kept asked upper lower finding findings read at_ costs ways reach)) zs.heap H locs → ∀ ls : Array Slot, lv_has ls 10 [(0, .ref (a 0)), (1, .int n), (3, .long x3), (5, .int x5), (6, .int x6), (7, .int x7)] → W zp l ze rm_X8_lots zs zm ([.ref (a 0), .int n, .int seed] : List Value).toArray zb zt zc H locs 0 0 (MQ zb (wrI (S := (Nat → Int32)) D (W_X8 ca a rowSizes rows textSizes texts now keeps kept asked upper lower finding findings read at_ costs ways reach) (fun zu => W_X8 ca a rowSizes rows textSizes texts zu keeps kept asked upper lower finding findings read at_ costs ways reach) (fun zr zu => post zr zu)) ([.ref (a 0), .int n, .int seed] : List Value).toArray zs 0 0 (adr (W_X8 ca a rowSizes rows textSizes texts now keeps kept asked upper lower finding findings read at_ costs ways reach))) (F0 zm 47 ls []) := by
    intro zn
    induction zn with
    | zero => intro now x3 x5 x6 x7 h; exact h.elim
    | succ zn ih47 =>
      intro now x3 x5 x6 x7 h H locs hP hD hS ls hl
      replace h : wb_X8_lots_47 n post (wl_X8_lots_47 n post zn) now x3 x5 x6 x7 := h
      unfold wb_X8_lots_47 at h
      refine lv_iload hx hb dX8_lots_47 (lv_at hl 5 rfl) ?_
      refine lv_iload_n hx hb dX8_lots_49 rfl (lv_at hl 1 rfl) ?_
      refine lv_icmp_ge (tgt := 163) hx hb dX8_lots_50 (by decide) (fun hc => ?_) (fun hc => ?_)
      · have h := h.1 hc
        refine lv_iload hx hb dX8_lots_163 (lv_at hl 3 rfl) ?_
        exact W.iret (v := x5) hx hb hr (fun zt ht hW => ⟨⟨x5, now, rfl, h, by rw [ht]; exact hP⟩, hS.F ht⟩) hS.2.2 dX8_lots_165
      · have h := h.2 hc
        refine lv_iload hx hb dX8_lots_53 (lv_at hl 4 rfl) ?_
        refine lv_if_eq (tgt := 163) hx hb dX8_lots_55 (by decide) (fun hc => ?_) (fun hc => ?_)
        · have h := h.1 hc
          refine lv_iload hx hb dX8_lots_163 (lv_at hl 3 rfl) ?_
          exact W.iret (v := x5) hx hb hr (fun zt ht hW => ⟨⟨x5, now, rfl, h, by rw [ht]; exact hP⟩, hS.F ht⟩) hS.2.2 dX8_lots_165
        · have h := h.2 hc
          refine lv_aload_n hx hb dX8_lots_58 rfl (lv_at hl 0 rfl) ?_
          refine va_get (D := D) (ci := 7) (v := .ref (a 5)) (C := RX8) (T := TX8) (N := 17) hx hb hts hi_X8_lots_X8 hown hK.1 hP 0 rfl rfl 4 (by decide) (hts _ k_X8_lots_3) (fun _ h9 => h9) rfl dX8_lots_59 ?_
          refine lv_iconst (v := (1)) hx hb dX8_lots_62 (by decide) ?_
          refine x_iald (v := now 1) hx hb hK hP 5 rfl (vin_lit (by decide)) rfl dX8_lots_63 ?_
          refine lv_bipush (v := (40)) hx hb dX8_lots_64 (by decide) ?_
          refine lv_icmp_ge (tgt := 163) hx hb dX8_lots_66 (by decide) (fun hc => ?_) (fun hc => ?_)
          · have h := h.1 hc
            refine lv_iload hx hb dX8_lots_163 (lv_at hl 3 rfl) ?_
            exact W.iret (v := x5) hx hb hr (fun zt ht hW => ⟨⟨x5, now, rfl, h, by rw [ht]; exact hP⟩, hS.F ht⟩) hS.2.2 dX8_lots_165
          · have h := h.2 hc
            refine lv_ldc2 (v := (48271)) hx hb hown (hts _ k_X8_lots_4) dX8_lots_69 ?_
            refine lv_lload_n hx hb dX8_lots_72 rfl (lv_at hl 2 rfl) ?_
            refine lv_lmul hx hb dX8_lots_73 ?_
            refine lv_ldc2 (v := (2147483647)) hx hb hown (hts _ k_X8_lots_5) dX8_lots_74 ?_
            refine lv_lrem hx hb dX8_lots_77 (by decide) ?_
            refine lv_lstore_n (lv' := [(3, .long (((48271 : Int64) * x3) - ((48271 : Int64) * x3) / (2147483647 : Int64) * (2147483647 : Int64))), (0, .ref (a 0)), (1, .int n), (5, .int x5), (6, .int x6), (7, .int x7)]) hx hb dX8_lots_78 rfl hl (by decide) rfl (fun ls hl => ?_)
            refine lv_lload_n hx hb dX8_lots_79 rfl (lv_at hl 0 rfl) ?_
            refine lv_iload hx hb dX8_lots_80 (lv_at hl 4 rfl) ?_
            refine rd_calli (va_runS (As := [.int x6]) (rest := [.long (((48271 : Int64) * x3) - ((48271 : Int64) * x3) / (2147483647 : Int64) * (2147483647 : Int64))]) ⟨hx, hb, hml, hown, hts⟩ (c_X8_bits l D ca   x6 _ h) (va_cwS 1 hts gX8_lots_X8_bits rfl rfl rfl (by decide +kernel) ⟨Nat.le_of_ble_eq_true rfl, Nat.le_of_ble_eq_true rfl⟩) (PcX.preS hK (fun zk zq zh => by simp at zh)) rfl rfl hl.1 rfl (lv_room (Nat.le_of_ble_eq_true rfl)) dX8_lots_82 ⟨Nat.le_of_ble_eq_true rfl, Nat.le_of_ble_eq_true rfl⟩) (fun r4 h => ?_)
            try dsimp only at h
            refine lv_i2l hx hb dX8_lots_85 rfl ?_
            obtain ⟨h0, h⟩ := h
            refine lv_lrem hx hb dX8_lots_86 h0 ?_
            refine lv_l2i hx hb dX8_lots_87 rfl ?_
            refine lv_istore (lv' := [(8, .int (((((48271 : Int64) * x3) - ((48271 : Int64) * x3) / (2147483647 : Int64) * (2147483647 : Int64)) - (((48271 : Int64) * x3) - ((48271 : Int64) * x3) / (2147483647 : Int64) * (2147483647 : Int64)) / r4.toInt64 * r4.toInt64).toInt32)), (3, .long (((48271 : Int64) * x3) - ((48271 : Int64) * x3) / (2147483647 : Int64) * (2147483647 : Int64))), (0, .ref (a 0)), (1, .int n), (5, .int x5), (6, .int x6), (7, .int x7)]) hx hb dX8_lots_88 hl (by decide) rfl (fun ls hl => ?_)
            refine lv_iconst (v := (0)) hx hb dX8_lots_90 (by decide) ?_
            refine lv_istore (lv' := [(9, .int (0 : Int32)), (8, .int (((((48271 : Int64) * x3) - ((48271 : Int64) * x3) / (2147483647 : Int64) * (2147483647 : Int64)) - (((48271 : Int64) * x3) - ((48271 : Int64) * x3) / (2147483647 : Int64) * (2147483647 : Int64)) / r4.toInt64 * r4.toInt64).toInt32)), (3, .long (((48271 : Int64) * x3) - ((48271 : Int64) * x3) / (2147483647 : Int64) * (2147483647 : Int64))), (0, .ref (a 0)), (1, .int n), (5, .int x5), (6, .int x6), (7, .int x7)]) hx hb dX8_lots_91 hl (by decide) rfl (fun ls hl => ?_)
            obtain ⟨zn, h⟩ := h
            exact w_93 _ ih47 zn now (((48271 : Int64) * x3) - ((48271 : Int64) * x3) / (2147483647 : Int64) * (2147483647 : Int64)) x5 x6 x7 (((((48271 : Int64) * x3) - ((48271 : Int64) * x3) / (2147483647 : Int64) * (2147483647 : Int64)) - (((48271 : Int64) * x3) - ((48271 : Int64) * x3) / (2147483647 : Int64) * (2147483647 : Int64)) / r4.toInt64 * r4.toInt64).toInt32) (0 : Int32) h _ _ hP hD hS ls (lv_sub hl [3, 4, 2, 5, 6, 7, 1, 0] rfl)
  unfold wp_X8_lots at h
  refine lv_iload_n hx hb dX8_lots_0 rfl (lv_at hl 1 rfl) ?_
  refine lv_i2l hx hb dX8_lots_1 rfl ?_
  refine lv_lconst (v := (1)) hx hb dX8_lots_2 (by decide) ?_
  refine lv_ldc2 (v := (12)) hx hb hown (hts _ k_X8_lots_1) dX8_lots_3 ?_
  refine rd_callz (va_runS (As := [.long n.toInt64, .long (1 : Int64), .long (12 : Int64)]) (rest := []) ⟨hx, hb, hml, hown, hts⟩ (c_X8_in l D ca   n.toInt64 (1 : Int64) (12 : Int64) _ h) (va_cwS 3 hts gX8_lots_X8_in rfl rfl rfl (by decide +kernel) ⟨Nat.le_of_ble_eq_true rfl, Nat.le_of_ble_eq_true rfl⟩) (PcX.preS hK (fun zk zq zh => by simp at zh)) rfl rfl hl.1 rfl (lv_room (Nat.le_of_ble_eq_true rfl)) dX8_lots_6 ⟨Nat.le_of_ble_eq_true rfl, Nat.le_of_ble_eq_true rfl⟩) (fun r1 h hz_r1 => ?_)
  try dsimp only at h
  refine lv_if_eq (tgt := 24) hx hb dX8_lots_9 (by decide) (fun hc => ?_) (fun hc => ?_)
  · have h := h.1 hc
    refine lv_iconst (v := (-1)) hx hb dX8_lots_24 (by decide) ?_
    exact W.iret (v := (-1 : Int32)) hx hb hr (fun zt ht hW => ⟨⟨(-1 : Int32), now, rfl, h, by rw [ht]; exact hP⟩, hS.F ht⟩) hS.2.2 dX8_lots_25
  · have h := h.2 hc
    refine lv_iload_n hx hb dX8_lots_12 rfl (lv_at hl 2 rfl) ?_
    refine lv_i2l hx hb dX8_lots_13 rfl ?_
    refine lv_lconst (v := (1)) hx hb dX8_lots_14 (by decide) ?_
    refine lv_ldc2 (v := (2147483646)) hx hb hown (hts _ k_X8_lots_2) dX8_lots_15 ?_
    refine rd_callz (va_runS (As := [.long seed.toInt64, .long (1 : Int64), .long (2147483646 : Int64)]) (rest := []) ⟨hx, hb, hml, hown, hts⟩ (c_X8_in l D ca   seed.toInt64 (1 : Int64) (2147483646 : Int64) _ h) (va_cwS 3 hts gX8_lots_X8_in rfl rfl rfl (by decide +kernel) ⟨Nat.le_of_ble_eq_true rfl, Nat.le_of_ble_eq_true rfl⟩) (PcX.preS hK (fun zk zq zh => by simp at zh)) rfl rfl hl.1 rfl (lv_room (Nat.le_of_ble_eq_true rfl)) dX8_lots_18 ⟨Nat.le_of_ble_eq_true rfl, Nat.le_of_ble_eq_true rfl⟩) (fun r2 h hz_r2 => ?_)
    try dsimp only at h
    refine lv_if_ne (tgt := 26) hx hb dX8_lots_21 (by decide) (fun hc => ?_) (fun hc => ?_)
    · have h := h.1 hc
      refine lv_iload_n hx hb dX8_lots_26 rfl (lv_at hl 2 rfl) ?_
      refine lv_i2l hx hb dX8_lots_27 rfl ?_
      refine lv_lstore_n (lv' := [(3, .long seed.toInt64), (0, .ref (a 0)), (1, .int n), (2, .int seed)]) hx hb dX8_lots_28 rfl hl (by decide) rfl (fun ls hl => ?_)
      refine lv_iconst (v := (0)) hx hb dX8_lots_29 (by decide) ?_
      refine lv_istore (lv' := [(5, .int (0 : Int32)), (3, .long seed.toInt64), (0, .ref (a 0)), (1, .int n), (2, .int seed)]) hx hb dX8_lots_30 hl (by decide) rfl (fun ls hl => ?_)
      refine lv_aload_n hx hb dX8_lots_32 rfl (lv_at hl 2 rfl) ?_
      refine lv_aload_n hx hb dX8_lots_33 rfl (lv_at hl 2 rfl) ?_
      refine va_get (D := D) (ci := 7) (v := .ref (a 5)) (C := RX8) (T := TX8) (N := 17) hx hb hts hi_X8_lots_X8 hown hK.1 hP 0 rfl rfl 4 (by decide) (hts _ k_X8_lots_3) (fun _ h9 => h9) rfl dX8_lots_34 ?_
      refine lv_iconst (v := (2)) hx hb dX8_lots_37 (by decide) ?_
      refine x_iald (v := now 2) hx hb hK hP 5 rfl (vin_lit (by decide)) rfl dX8_lots_38 ?_
      refine rd_calli (va_runV (As := [.int (now 2)]) (rest := []) ⟨hx, hb, hml, hown, hts⟩ (c_X8_allThatMay l D ca a rowSizes rows textSizes texts now keeps kept asked upper lower finding findings read at_ costs ways reach (now 2) _ h) (cwV 1 hts gX8_lots_X8_allThatMay rfl rfl rfl (by decide +kernel) ⟨Nat.le_of_ble_eq_true rfl, Nat.le_of_ble_eq_true rfl⟩) (PcX.preV (q := (RX8, TX8, 17)) (ci := 7) (q0 := 0) hK hP rfl rfl hP) rfl rfl hl.1 rfl (lv_room (Nat.le_of_ble_eq_true rfl)) dX8_lots_39 ⟨Nat.le_of_ble_eq_true rfl, Nat.le_of_ble_eq_true rfl⟩) (fun r3 h => ?_)
      try dsimp only at h
      refine lv_istore (lv' := [(6, .int r3), (5, .int (0 : Int32)), (3, .long seed.toInt64), (0, .ref (a 0)), (1, .int n), (2, .int seed)]) hx hb dX8_lots_42 hl (by decide) rfl (fun ls hl => ?_)
      refine lv_iconst (v := (0)) hx hb dX8_lots_44 (by decide) ?_
      refine lv_istore (lv' := [(7, .int (0 : Int32)), (6, .int r3), (5, .int (0 : Int32)), (3, .long seed.toInt64), (0, .ref (a 0)), (1, .int n), (2, .int seed)]) hx hb dX8_lots_45 hl (by decide) rfl (fun ls hl => ?_)
      obtain ⟨zn, h⟩ := h
      exact w_47  zn now seed.toInt64 (0 : Int32) r3 (0 : Int32) h _ _ hP hD hS ls (lv_sub hl [4, 5, 3, 2, 1, 0] rfl)
    · have h := h.2 hc
      refine lv_iconst (v := (-1)) hx hb dX8_lots_24 (by decide) ?_
      exact W.iret (v := (-1 : Int32)) hx hb hr (fun zt ht hW => ⟨⟨(-1 : Int32), now, rfl, h, by rw [ht]; exact hP⟩, hS.F ht⟩) hS.2.2 dX8_lots_25

-- IronedQuarrelsModel.asked()I
def wp_X8_asked (asked : Int32) (post : Int32 → Prop) : Prop :=
  post asked
def rm_X8_asked : Room := { frames := 0, cells := 0, slots := 0, locals := 0 }
theorem k_X8_asked_1 : Cond.fieldLink RX8 56 "IronedQuarrelsModel" "asked" "I" ∈ wsX8_asked := List.mem_of_getElem? (i := 1) (by decide +kernel)
theorem hi_X8_asked_X8 : ∀ w ∈ wsX80, w ∈ wsX8_asked := fun w h => List.mem_cons_of_mem _ (List.mem_append_right _ h)
set_option maxHeartbeats 4000000 in
set_option maxRecDepth 100000 in
theorem c_X8_asked (l : Launch) (D : va_G) (ca : Nat → ClassId) (a : Nat → Nat) (rowSizes : Nat → Int32) (rows : Nat → Int32) (textSizes : Nat → Int32) (texts : Nat → Int32) (now : Nat → Int32) (keeps : Nat → Int32) (kept : Nat → Int32) (asked : Int32) (upper : Int64) (lower : Int64) (finding : Int32) (findings : Nat → Int32) (read : Nat → Int32) (at_ : Int32) (costs : Nat → Int32) (ways : Nat → Int64) (reach : Nat → Int32)  (post : Int32 → Prop) (h : wp_X8_asked asked post) : Met l yX8_asked wsX8_asked rm_X8_asked (PcX D ca [.ref (a 0)] (W_X8 ca a rowSizes rows textSizes texts now keeps kept asked upper lower finding findings read at_ costs ways reach)) (rdI post) 0 0 (fun _ => False) := by
  refine Met.ofW (cc := cX8_asked) (maxL := 1) (ret := (some .int)) (by decide) rfl ?_
  intro zp ze zs zm za zb zt zc z1 B hml hv
  obtain ⟨rfl, hP, hK⟩ := hv
  have hx := B.exec
  have hb := B.bytes
  have hr := B.returns
  have hts := atoms_spec (ws := wsX8_asked) B.pre
  have hown : zs.vm.findClass RX8 = some zm.cls := findClass_of_methodNamed B.named
  have hlocks := B.notSynchronized
  have hl := lv_entry ([.ref (a 0)]) (n := 1) (Nat.le_of_ble_eq_true rfl)
  rw [lg_entry_eq]
  generalize (lg_sl ([.ref (a 0)]) ++ List.replicate (1 - (lg_sl ([.ref (a 0)])).length) Slot.unset).toArray = ls at hl ⊢
  replace hl : lv_has ls 1 [(0, .ref (a 0))] := hl
  show W zp l ze rm_X8_asked zs zm ([.ref (a 0)] : List Value).toArray zb zt zc zs.heap [] 0 0 (MQ zb (rdI post) ([.ref (a 0)] : List Value).toArray zs 0 0 (fun _ => False)) (F0 zm 0 ls [])
  unfold wp_X8_asked at h
  refine lv_aload_n hx hb dX8_asked_0 rfl (lv_at hl 0 rfl) ?_
  refine va_get (D := D) (ci := 7) (v := .int asked) (C := RX8) (T := TX8) (N := 17) hx hb hts hi_X8_asked_X8 hown hK.1 hP 0 rfl rfl 7 (by decide) (hts _ k_X8_asked_1) (fun _ h9 => h9) rfl dX8_asked_1 ?_
  exact W.iret (v := asked) hx hb hr (fun zt ht hW => ⟨asked, rfl, h, ht⟩) (fun zq hq => absurd hq List.not_mem_nil) dX8_asked_4

-- IronedQuarrelsModel.upper()J
def wp_X8_upper (upper : Int64) (post : Int64 → Prop) : Prop :=
  post upper
def rm_X8_upper : Room := { frames := 0, cells := 0, slots := 0, locals := 0 }
theorem k_X8_upper_1 : Cond.fieldLink RX8 177 "IronedQuarrelsModel" "upper" "J" ∈ wsX8_upper := List.mem_of_getElem? (i := 1) (by decide +kernel)
theorem hi_X8_upper_X8 : ∀ w ∈ wsX80, w ∈ wsX8_upper := fun w h => List.mem_cons_of_mem _ (List.mem_append_right _ h)
set_option maxHeartbeats 4000000 in
set_option maxRecDepth 100000 in
theorem c_X8_upper (l : Launch) (D : va_G) (ca : Nat → ClassId) (a : Nat → Nat) (rowSizes : Nat → Int32) (rows : Nat → Int32) (textSizes : Nat → Int32) (texts : Nat → Int32) (now : Nat → Int32) (keeps : Nat → Int32) (kept : Nat → Int32) (asked : Int32) (upper : Int64) (lower : Int64) (finding : Int32) (findings : Nat → Int32) (read : Nat → Int32) (at_ : Int32) (costs : Nat → Int32) (ways : Nat → Int64) (reach : Nat → Int32)  (post : Int64 → Prop) (h : wp_X8_upper upper post) : Met l yX8_upper wsX8_upper rm_X8_upper (PcX D ca [.ref (a 0)] (W_X8 ca a rowSizes rows textSizes texts now keeps kept asked upper lower finding findings read at_ costs ways reach)) (rdL post) 0 0 (fun _ => False) := by
  refine Met.ofW (cc := cX8_upper) (maxL := 1) (ret := (some .long)) (by decide) rfl ?_
  intro zp ze zs zm za zb zt zc z1 B hml hv
  obtain ⟨rfl, hP, hK⟩ := hv
  have hx := B.exec
  have hb := B.bytes
  have hr := B.returns
  have hts := atoms_spec (ws := wsX8_upper) B.pre
  have hown : zs.vm.findClass RX8 = some zm.cls := findClass_of_methodNamed B.named
  have hlocks := B.notSynchronized
  have hl := lv_entry ([.ref (a 0)]) (n := 1) (Nat.le_of_ble_eq_true rfl)
  rw [lg_entry_eq]
  generalize (lg_sl ([.ref (a 0)]) ++ List.replicate (1 - (lg_sl ([.ref (a 0)])).length) Slot.unset).toArray = ls at hl ⊢
  replace hl : lv_has ls 1 [(0, .ref (a 0))] := hl
  show W zp l ze rm_X8_upper zs zm ([.ref (a 0)] : List Value).toArray zb zt zc zs.heap [] 0 0 (MQ zb (rdL post) ([.ref (a 0)] : List Value).toArray zs 0 0 (fun _ => False)) (F0 zm 0 ls [])
  unfold wp_X8_upper at h
  refine lv_aload_n hx hb dX8_upper_0 rfl (lv_at hl 0 rfl) ?_
  refine va_get (D := D) (ci := 7) (v := .long upper) (C := RX8) (T := TX8) (N := 17) hx hb hts hi_X8_upper_X8 hown hK.1 hP 0 rfl rfl 8 (by decide) (hts _ k_X8_upper_1) (fun _ h9 => h9) rfl dX8_upper_1 ?_
  exact W.lret (v := upper) hx hb hr (fun zt ht hW => ⟨upper, rfl, h, ht⟩) (fun zq hq => absurd hq List.not_mem_nil) dX8_upper_4

-- IronedQuarrelsModel.lower()J
def wp_X8_lower (lower : Int64) (post : Int64 → Prop) : Prop :=
  post lower
def rm_X8_lower : Room := { frames := 0, cells := 0, slots := 0, locals := 0 }
theorem k_X8_lower_1 : Cond.fieldLink RX8 32 "IronedQuarrelsModel" "lower" "J" ∈ wsX8_lower := List.mem_of_getElem? (i := 1) (by decide +kernel)
theorem hi_X8_lower_X8 : ∀ w ∈ wsX80, w ∈ wsX8_lower := fun w h => List.mem_cons_of_mem _ (List.mem_append_right _ h)
set_option maxHeartbeats 4000000 in
set_option maxRecDepth 100000 in
theorem c_X8_lower (l : Launch) (D : va_G) (ca : Nat → ClassId) (a : Nat → Nat) (rowSizes : Nat → Int32) (rows : Nat → Int32) (textSizes : Nat → Int32) (texts : Nat → Int32) (now : Nat → Int32) (keeps : Nat → Int32) (kept : Nat → Int32) (asked : Int32) (upper : Int64) (lower : Int64) (finding : Int32) (findings : Nat → Int32) (read : Nat → Int32) (at_ : Int32) (costs : Nat → Int32) (ways : Nat → Int64) (reach : Nat → Int32)  (post : Int64 → Prop) (h : wp_X8_lower lower post) : Met l yX8_lower wsX8_lower rm_X8_lower (PcX D ca [.ref (a 0)] (W_X8 ca a rowSizes rows textSizes texts now keeps kept asked upper lower finding findings read at_ costs ways reach)) (rdL post) 0 0 (fun _ => False) := by
  refine Met.ofW (cc := cX8_lower) (maxL := 1) (ret := (some .long)) (by decide) rfl ?_
  intro zp ze zs zm za zb zt zc z1 B hml hv
  obtain ⟨rfl, hP, hK⟩ := hv
  have hx := B.exec
  have hb := B.bytes
  have hr := B.returns
  have hts := atoms_spec (ws := wsX8_lower) B.pre
  have hown : zs.vm.findClass RX8 = some zm.cls := findClass_of_methodNamed B.named
  have hlocks := B.notSynchronized
  have hl := lv_entry ([.ref (a 0)]) (n := 1) (Nat.le_of_ble_eq_true rfl)
  rw [lg_entry_eq]
  generalize (lg_sl ([.ref (a 0)]) ++ List.replicate (1 - (lg_sl ([.ref (a 0)])).length) Slot.unset).toArray = ls at hl ⊢
  replace hl : lv_has ls 1 [(0, .ref (a 0))] := hl
  show W zp l ze rm_X8_lower zs zm ([.ref (a 0)] : List Value).toArray zb zt zc zs.heap [] 0 0 (MQ zb (rdL post) ([.ref (a 0)] : List Value).toArray zs 0 0 (fun _ => False)) (F0 zm 0 ls [])
  unfold wp_X8_lower at h
  refine lv_aload_n hx hb dX8_lower_0 rfl (lv_at hl 0 rfl) ?_
  refine va_get (D := D) (ci := 7) (v := .long lower) (C := RX8) (T := TX8) (N := 17) hx hb hts hi_X8_lower_X8 hown hK.1 hP 0 rfl rfl 9 (by decide) (hts _ k_X8_lower_1) (fun _ h9 => h9) rfl dX8_lower_1 ?_
  exact W.lret (v := lower) hx hb hr (fun zt ht hW => ⟨lower, rfl, h, ht⟩) (fun zq hq => absurd hq List.not_mem_nil) dX8_lower_4

-- IronedQuarrelsModel.counted(I)I
def wb_X8_counted_209 (now : Nat → Int32) (what : Int32) (post : Int32 → Prop) (x2 : Int32) (x3 : Int32) (x4 : Int32) : Prop :=
  (what = 0 → (post (now 0))) ∧ (what = 1 → (wp_X8_bits (now 2) (fun r1 => post r1))) ∧ (what = 2 → (post (now 1))) ∧ (what = 3 → (wp_X8_pricesOf now (63 : Int32) (fun r2 => post r2))) ∧ (what = 4 → (wp_X8_bits x2 (fun r3 => post r3))) ∧ (what = 5 → (post x3)) ∧ (¬ what = 0 → ¬ what = 1 → ¬ what = 2 → ¬ what = 3 → ¬ what = 4 → ¬ what = 5 → (post x4))
def wb_X8_counted_171 (now : Nat → Int32) (kept : Nat → Int32) (what : Int32) (post : Int32 → Prop) (K171 : (Int32) → (Int32) → (Int32) → (Int32) → Prop) (x2 : Int32) (x3 : Int32) (x4 : Int32) (x5 : Int32) : Prop :=
  ((3 : Int32) ≤ x5 → (wb_X8_counted_209 now what post x2 x3 x4)) ∧ (¬ (3 : Int32) ≤ x5 → ((¬ what = (8 : Int32) → (wb_X8_counted_209 now what post x2 x3 x4)) ∧ (what = (8 : Int32) → (vp_in x5 3 ∧ ((kept x5.toNatClampNeg) = 0 → (K171 x2 x3 (x4 + (0 : Int32)) (x5 + 1))) ∧ (¬ (kept x5.toNatClampNeg) = 0 → (K171 x2 x3 (x4 + (1 : Int32)) (x5 + 1)))))))
def wl_X8_counted_171 (now : Nat → Int32) (kept : Nat → Int32) (what : Int32) (post : Int32 → Prop) : Nat → (Int32) → (Int32) → (Int32) → (Int32) → Prop
  | 0 => fun _ _ _ _ => False
  | zn + 1 => wb_X8_counted_171 now kept what post (wl_X8_counted_171 now kept what post zn)
def wb_X8_counted_130 (textSizes : Nat → Int32) (now : Nat → Int32) (kept : Nat → Int32) (what : Int32) (post : Int32 → Prop) (K130 : (Int32) → (Int32) → (Int32) → (Int32) → Prop) (x2 : Int32) (x3 : Int32) (x4 : Int32) (x5 : Int32) : Prop :=
  ((4 : Int32) ≤ x5 → (∃ zn, wl_X8_counted_171 now kept what post zn x2 x3 x4 (0 : Int32))) ∧ (¬ (4 : Int32) ≤ x5 → ((¬ what = (7 : Int32) → (∃ zn, wl_X8_counted_171 now kept what post zn x2 x3 x4 (0 : Int32))) ∧ (what = (7 : Int32) → (vp_in x5 4 ∧ (0 ≤ (textSizes x5.toNatClampNeg) → (K130 x2 x3 (x4 + (1 : Int32)) (x5 + 1))) ∧ (¬ 0 ≤ (textSizes x5.toNatClampNeg) → (K130 x2 x3 (x4 + (0 : Int32)) (x5 + 1)))))))
def wl_X8_counted_130 (textSizes : Nat → Int32) (now : Nat → Int32) (kept : Nat → Int32) (what : Int32) (post : Int32 → Prop) : Nat → (Int32) → (Int32) → (Int32) → (Int32) → Prop
  | 0 => fun _ _ _ _ => False
  | zn + 1 => wb_X8_counted_130 textSizes now kept what post (wl_X8_counted_130 textSizes now kept what post zn)
def wb_X8_counted_88 (rowSizes : Nat → Int32) (textSizes : Nat → Int32) (now : Nat → Int32) (kept : Nat → Int32) (what : Int32) (post : Int32 → Prop) (K88 : (Int32) → (Int32) → (Int32) → (Int32) → Prop) (x2 : Int32) (x3 : Int32) (x4 : Int32) (x5 : Int32) : Prop :=
  ((6 : Int32) ≤ x5 → (∃ zn, wl_X8_counted_130 textSizes now kept what post zn x2 x3 x4 (0 : Int32))) ∧ (¬ (6 : Int32) ≤ x5 → ((¬ what = (6 : Int32) → (∃ zn, wl_X8_counted_130 textSizes now kept what post zn x2 x3 x4 (0 : Int32))) ∧ (what = (6 : Int32) → (vp_in x5 6 ∧ (0 ≤ (rowSizes x5.toNatClampNeg) → (K88 x2 x3 (x4 + (1 : Int32)) (x5 + 1))) ∧ (¬ 0 ≤ (rowSizes x5.toNatClampNeg) → (K88 x2 x3 (x4 + (0 : Int32)) (x5 + 1)))))))
def wl_X8_counted_88 (rowSizes : Nat → Int32) (textSizes : Nat → Int32) (now : Nat → Int32) (kept : Nat → Int32) (what : Int32) (post : Int32 → Prop) : Nat → (Int32) → (Int32) → (Int32) → (Int32) → Prop
  | 0 => fun _ _ _ _ => False
  | zn + 1 => wb_X8_counted_88 rowSizes textSizes now kept what post (wl_X8_counted_88 rowSizes textSizes now kept what post zn)
def wb_X8_counted_50 (now : Nat → Int32) (K7 : (Int32) → (Int32) → (Int32) → Prop) (x3 : Int32) (x4 : Int32) (s0 : Int32) (s1 : Int32) : Prop :=
  vp_in ((3 : Int32) + x4) 115 ∧ wp_X8_isOf (now ((3 : Int32) + x4).toNatClampNeg) (1 : Int32) (fun r4 => (r4 = 0 → (K7 (s1 ||| s0) (x3 + (0 : Int32)) (x4 + 1))) ∧ (¬ r4 = 0 → (K7 (s1 ||| s0) (x3 + (1 : Int32)) (x4 + 1))))
def wb_X8_counted_7 (rowSizes : Nat → Int32) (textSizes : Nat → Int32) (now : Nat → Int32) (kept : Nat → Int32) (what : Int32) (post : Int32 → Prop) (K7 : (Int32) → (Int32) → (Int32) → Prop) (x2 : Int32) (x3 : Int32) (x4 : Int32) : Prop :=
  ((now 0) ≤ x4 → (∃ zn, wl_X8_counted_88 rowSizes textSizes now kept what post zn x2 x3 (0 : Int32) (0 : Int32))) ∧ (¬ (now 0) ≤ x4 → (vp_in ((63 : Int32) + x4) 115 ∧ (¬ (now ((63 : Int32) + x4).toNatClampNeg) = (-9 : Int32) → (wb_X8_counted_50 now K7 x3 x4 (0 : Int32) x2)) ∧ ((now ((63 : Int32) + x4).toNatClampNeg) = (-9 : Int32) → (vp_in ((15 : Int32) + x4) 115 ∧ wb_X8_counted_50 now K7 x3 x4 ((1 : Int32) <<< ((now ((15 : Int32) + x4).toNatClampNeg) &&& 31)) x2))))
def wl_X8_counted_7 (rowSizes : Nat → Int32) (textSizes : Nat → Int32) (now : Nat → Int32) (kept : Nat → Int32) (what : Int32) (post : Int32 → Prop) : Nat → (Int32) → (Int32) → (Int32) → Prop
  | 0 => fun _ _ _ => False
  | zn + 1 => wb_X8_counted_7 rowSizes textSizes now kept what post (wl_X8_counted_7 rowSizes textSizes now kept what post zn)
def wp_X8_counted (rowSizes : Nat → Int32) (textSizes : Nat → Int32) (now : Nat → Int32) (kept : Nat → Int32) (what : Int32) (post : Int32 → Prop) : Prop :=
  ∃ zn, wl_X8_counted_7 rowSizes textSizes now kept what post zn (0 : Int32) (0 : Int32) (0 : Int32)
def rm_X8_counted : Room := { frames := 4, cells := 0, slots := 0, locals := 94 }
theorem k_X8_counted_1 : Cond.fieldLink RX8 22 "IronedQuarrelsModel" "now" "[I" ∈ wsX8_counted := List.mem_of_getElem? (i := 1) (by decide +kernel)
theorem k_X8_counted_2 : Cond.fieldLink RX8 7 "IronedQuarrelsModel" "rowSizes" "[I" ∈ wsX8_counted := List.mem_of_getElem? (i := 2) (by decide +kernel)
theorem k_X8_counted_3 : Cond.fieldLink RX8 16 "IronedQuarrelsModel" "textSizes" "[I" ∈ wsX8_counted := List.mem_of_getElem? (i := 3) (by decide +kernel)
theorem k_X8_counted_4 : Cond.fieldLink RX8 28 "IronedQuarrelsModel" "kept" "[Z" ∈ wsX8_counted := List.mem_of_getElem? (i := 4) (by decide +kernel)
theorem hi_X8_counted_X8 : ∀ w ∈ wsX80, w ∈ wsX8_counted := fun w h => List.mem_cons_of_mem _ (List.mem_append_right _ h)
set_option maxHeartbeats 4000000 in
set_option maxRecDepth 100000 in
theorem c_X8_counted (l : Launch) (D : va_G) (ca : Nat → ClassId) (a : Nat → Nat) (rowSizes : Nat → Int32) (rows : Nat → Int32) (textSizes : Nat → Int32) (texts : Nat → Int32) (now : Nat → Int32) (keeps : Nat → Int32) (kept : Nat → Int32) (asked : Int32) (upper : Int64) (lower : Int64) (finding : Int32) (findings : Nat → Int32) (read : Nat → Int32) (at_ : Int32) (costs : Nat → Int32) (ways : Nat → Int64) (reach : Nat → Int32) (what : Int32) (post : Int32 → Prop) (h : wp_X8_counted rowSizes textSizes now kept what post) : Met l yX8_counted wsX8_counted rm_X8_counted (PcX D ca [.ref (a 0), .int what] (W_X8 ca a rowSizes rows textSizes texts now keeps kept asked upper lower finding findings read at_ costs ways reach)) (rdI post) 0 0 (fun _ => False) := by
  refine Met.ofW (cc := cX8_counted) (maxL := 6) (ret := (some .int)) (by decide) rfl ?_
  intro zp ze zs zm za zb zt zc z1 B hml hv
  obtain ⟨rfl, hP, hK⟩ := hv
  have hx := B.exec
  have hb := B.bytes
  have hr := B.returns
  have hts := atoms_spec (ws := wsX8_counted) B.pre
  have hown : zs.vm.findClass RX8 = some zm.cls := findClass_of_methodNamed B.named
  have hlocks := B.notSynchronized
  have hl := lv_entry ([.ref (a 0), .int what]) (n := 6) (Nat.le_of_ble_eq_true rfl)
  rw [lg_entry_eq]
  generalize (lg_sl ([.ref (a 0), .int what]) ++ List.replicate (6 - (lg_sl ([.ref (a 0), .int what])).length) Slot.unset).toArray = ls at hl ⊢
  replace hl : lv_has ls 6 [(0, .ref (a 0)), (1, .int what)] := hl
  show W zp l ze rm_X8_counted zs zm ([.ref (a 0), .int what] : List Value).toArray zb zt zc zs.heap [] 0 0 (MQ zb (rdI post) ([.ref (a 0), .int what] : List Value).toArray zs 0 0 (fun _ => False)) (F0 zm 0 ls [])
  have w_209 : ∀ (x2 : Int32) (x3 : Int32) (x4 : Int32), wb_X8_counted_209 now what post x2 x3 x4 → ∀ ls : Array Slot, lv_has ls 6 [(0, .ref (a 0)), (1, .int what), (2, .int x2), (3, .int x3), (4, .int x4)] → W zp l ze rm_X8_counted zs zm ([.ref (a 0), .int what] : List Value).toArray zb zt zc zs.heap [] 0 0 (MQ zb (rdI post) ([.ref (a 0), .int what] : List Value).toArray zs 0 0 (fun _ => False)) (F0 zm 209 ls []) := by
    intro x2 x3 x4 h ls hl
    unfold wb_X8_counted_209 at h
    refine lv_iload_n hx hb dX8_counted_209 rfl (lv_at hl 1 rfl) ?_
    by_cases hc0 : what = 0
    · have h := h.1 hc0
      refine lv_tableIn (tgt := 248) hx hb dX8_counted_210 (by rw [hc0]; decide) (by rw [hc0]; decide) (by rw [hc0]; rfl) (by decide) ?_
      refine lv_aload_n hx hb dX8_counted_248 rfl (lv_at hl 0 rfl) ?_
      refine va_get (D := D) (ci := 7) (v := .ref (a 5)) (C := RX8) (T := TX8) (N := 17) hx hb hts hi_X8_counted_X8 hown hK.1 hP 0 rfl rfl 4 (by decide) (hts _ k_X8_counted_1) (fun _ h9 => h9) rfl dX8_counted_249 ?_
      refine lv_iconst (v := (0)) hx hb dX8_counted_252 (by decide) ?_
      refine x_iald (v := now 0) hx hb hK hP 5 rfl (vin_lit (by decide)) rfl dX8_counted_253 ?_
      exact W.iret (v := now 0) hx hb hr (fun zt ht hW => ⟨now 0, rfl, h, ht⟩) (fun zq hq => absurd hq List.not_mem_nil) dX8_counted_254
    · have h := h.2
      by_cases hc1 : what = 1
      · have h := h.1 hc1
        refine lv_tableIn (tgt := 255) hx hb dX8_counted_210 (by rw [hc1]; decide) (by rw [hc1]; decide) (by rw [hc1]; rfl) (by decide) ?_
        refine lv_aload_n hx hb dX8_counted_255 rfl (lv_at hl 0 rfl) ?_
        refine va_get (D := D) (ci := 7) (v := .ref (a 5)) (C := RX8) (T := TX8) (N := 17) hx hb hts hi_X8_counted_X8 hown hK.1 hP 0 rfl rfl 4 (by decide) (hts _ k_X8_counted_1) (fun _ h9 => h9) rfl dX8_counted_256 ?_
        refine lv_iconst (v := (2)) hx hb dX8_counted_259 (by decide) ?_
        refine x_iald (v := now 2) hx hb hK hP 5 rfl (vin_lit (by decide)) rfl dX8_counted_260 ?_
        refine rd_calli (va_runS (As := [.int (now 2)]) (rest := []) ⟨hx, hb, hml, hown, hts⟩ (c_X8_bits l D ca   (now 2) _ h) (va_cwS 1 hts gX8_counted_X8_bits rfl rfl rfl (by decide +kernel) ⟨Nat.le_of_ble_eq_true rfl, Nat.le_of_ble_eq_true rfl⟩) (PcX.preS hK (fun zk zq zh => by simp at zh)) rfl rfl hl.1 rfl (lv_room (Nat.le_of_ble_eq_true rfl)) dX8_counted_261 ⟨Nat.le_of_ble_eq_true rfl, Nat.le_of_ble_eq_true rfl⟩) (fun r1 h => ?_)
        try dsimp only at h
        exact W.iret (v := r1) hx hb hr (fun zt ht hW => ⟨r1, rfl, h, ht⟩) (fun zq hq => absurd hq List.not_mem_nil) dX8_counted_264
      · have h := h.2
        by_cases hc2 : what = 2
        · have h := h.1 hc2
          refine lv_tableIn (tgt := 265) hx hb dX8_counted_210 (by rw [hc2]; decide) (by rw [hc2]; decide) (by rw [hc2]; rfl) (by decide) ?_
          refine lv_aload_n hx hb dX8_counted_265 rfl (lv_at hl 0 rfl) ?_
          refine va_get (D := D) (ci := 7) (v := .ref (a 5)) (C := RX8) (T := TX8) (N := 17) hx hb hts hi_X8_counted_X8 hown hK.1 hP 0 rfl rfl 4 (by decide) (hts _ k_X8_counted_1) (fun _ h9 => h9) rfl dX8_counted_266 ?_
          refine lv_iconst (v := (1)) hx hb dX8_counted_269 (by decide) ?_
          refine x_iald (v := now 1) hx hb hK hP 5 rfl (vin_lit (by decide)) rfl dX8_counted_270 ?_
          exact W.iret (v := now 1) hx hb hr (fun zt ht hW => ⟨now 1, rfl, h, ht⟩) (fun zq hq => absurd hq List.not_mem_nil) dX8_counted_271
        · have h := h.2
          by_cases hc3 : what = 3
          · have h := h.1 hc3
            refine lv_tableIn (tgt := 272) hx hb dX8_counted_210 (by rw [hc3]; decide) (by rw [hc3]; decide) (by rw [hc3]; rfl) (by decide) ?_
            refine lv_aload_n hx hb dX8_counted_272 rfl (lv_at hl 0 rfl) ?_
            refine lv_bipush (v := (63)) hx hb dX8_counted_273 (by decide) ?_
            refine rd_calli (va_runV (As := [.int (63 : Int32)]) (rest := []) ⟨hx, hb, hml, hown, hts⟩ (c_X8_pricesOf l D ca a rowSizes rows textSizes texts now keeps kept asked upper lower finding findings read at_ costs ways reach (63 : Int32) _ h) (cwV 1 hts gX8_counted_X8_pricesOf rfl rfl rfl (by decide +kernel) ⟨Nat.le_of_ble_eq_true rfl, Nat.le_of_ble_eq_true rfl⟩) (PcX.preV (q := (RX8, TX8, 17)) (ci := 7) (q0 := 0) hK hP rfl rfl hP) rfl rfl hl.1 rfl (lv_room (Nat.le_of_ble_eq_true rfl)) dX8_counted_275 ⟨Nat.le_of_ble_eq_true rfl, Nat.le_of_ble_eq_true rfl⟩) (fun r2 h => ?_)
            try dsimp only at h
            exact W.iret (v := r2) hx hb hr (fun zt ht hW => ⟨r2, rfl, h, ht⟩) (fun zq hq => absurd hq List.not_mem_nil) dX8_counted_278
          · have h := h.2
            by_cases hc4 : what = 4
            · have h := h.1 hc4
              refine lv_tableIn (tgt := 279) hx hb dX8_counted_210 (by rw [hc4]; decide) (by rw [hc4]; decide) (by rw [hc4]; rfl) (by decide) ?_
              refine lv_iload_n hx hb dX8_counted_279 rfl (lv_at hl 2 rfl) ?_
              refine rd_calli (va_runS (As := [.int x2]) (rest := []) ⟨hx, hb, hml, hown, hts⟩ (c_X8_bits l D ca   x2 _ h) (va_cwS 1 hts gX8_counted_X8_bits rfl rfl rfl (by decide +kernel) ⟨Nat.le_of_ble_eq_true rfl, Nat.le_of_ble_eq_true rfl⟩) (PcX.preS hK (fun zk zq zh => by simp at zh)) rfl rfl hl.1 rfl (lv_room (Nat.le_of_ble_eq_true rfl)) dX8_counted_280 ⟨Nat.le_of_ble_eq_true rfl, Nat.le_of_ble_eq_true rfl⟩) (fun r3 h => ?_)
              try dsimp only at h
              exact W.iret (v := r3) hx hb hr (fun zt ht hW => ⟨r3, rfl, h, ht⟩) (fun zq hq => absurd hq List.not_mem_nil) dX8_counted_283
            · have h := h.2
              by_cases hc5 : what = 5
              · have h := h.1 hc5
                refine lv_tableIn (tgt := 284) hx hb dX8_counted_210 (by rw [hc5]; decide) (by rw [hc5]; decide) (by rw [hc5]; rfl) (by decide) ?_
                refine lv_iload_n hx hb dX8_counted_284 rfl (lv_at hl 3 rfl) ?_
                exact W.iret (v := x3) hx hb hr (fun zt ht hW => ⟨x3, rfl, h, ht⟩) (fun zq hq => absurd hq List.not_mem_nil) dX8_counted_285
              · have h := h.2
                have h := h hc0 hc1 hc2 hc3 hc4 hc5
                have hsw : what.toInt < 0 ∨ 5 < what.toInt := x_swOutL 0 6 5 (by decide) (by decide) (by decide) (fun j hj => by rcases (show j = 0 ∨ j = 1 ∨ j = 2 ∨ j = 3 ∨ j = 4 ∨ j = 5 by omega) with rfl | rfl | rfl | rfl | rfl | rfl <;> assumption)
                refine lv_tableOut (tgt := 286) hx hb dX8_counted_210 hsw (by decide) ?_
                refine lv_iload hx hb dX8_counted_286 (lv_at hl 4 rfl) ?_
                exact W.iret (v := x4) hx hb hr (fun zt ht hW => ⟨x4, rfl, h, ht⟩) (fun zq hq => absurd hq List.not_mem_nil) dX8_counted_288
  have w_171 : ∀ (zn : Nat) (x2 : Int32) (x3 : Int32) (x4 : Int32) (x5 : Int32), wl_X8_counted_171 now kept what post zn x2 x3 x4 x5 → ∀ ls : Array Slot, lv_has ls 6 [(0, .ref (a 0)), (1, .int what), (2, .int x2), (3, .int x3), (4, .int x4), (5, .int x5)] → W zp l ze rm_X8_counted zs zm ([.ref (a 0), .int what] : List Value).toArray zb zt zc zs.heap [] 0 0 (MQ zb (rdI post) ([.ref (a 0), .int what] : List Value).toArray zs 0 0 (fun _ => False)) (F0 zm 171 ls []) := by
    intro zn
    induction zn with
    | zero => intro x2 x3 x4 x5 h; exact h.elim
    | succ zn ih171 =>
      intro x2 x3 x4 x5 h ls hl
      replace h : wb_X8_counted_171 now kept what post (wl_X8_counted_171 now kept what post zn) x2 x3 x4 x5 := h
      unfold wb_X8_counted_171 at h
      refine lv_iload hx hb dX8_counted_171 (lv_at hl 5 rfl) ?_
      refine lv_iconst (v := (3)) hx hb dX8_counted_173 (by decide) ?_
      refine lv_icmp_ge (tgt := 209) hx hb dX8_counted_174 (by decide) (fun hc => ?_) (fun hc => ?_)
      · have h := h.1 hc
        exact w_209  x2 x3 x4 h ls (lv_sub hl [0, 1, 2, 3, 4] rfl)
      · have h := h.2 hc
        refine lv_iload_n hx hb dX8_counted_177 rfl (lv_at hl 1 rfl) ?_
        refine lv_bipush (v := (8)) hx hb dX8_counted_178 (by decide) ?_
        refine lv_icmp_ne (tgt := 209) hx hb dX8_counted_180 (by decide) (fun hc => ?_) (fun hc => ?_)
        · have h := h.1 hc
          exact w_209  x2 x3 x4 h ls (lv_sub hl [0, 1, 2, 3, 4] rfl)
        · have h := h.2 hc
          refine lv_iload hx hb dX8_counted_183 (lv_at hl 4 rfl) ?_
          refine lv_aload_n hx hb dX8_counted_185 rfl (lv_at hl 0 rfl) ?_
          refine va_get (D := D) (ci := 7) (v := .ref (a 7)) (C := RX8) (T := TX8) (N := 17) hx hb hts hi_X8_counted_X8 hown hK.1 hP 0 rfl rfl 6 (by decide) (hts _ k_X8_counted_4) (fun _ h9 => h9) rfl dX8_counted_186 ?_
          refine lv_iload hx hb dX8_counted_189 (lv_at hl 5 rfl) ?_
          obtain ⟨hi, h⟩ := h
          refine x_zald (v := kept x5.toNatClampNeg) hx hb hK hP 7 rfl hi rfl dX8_counted_191 ?_
          refine lv_if_eq (tgt := 199) hx hb dX8_counted_192 (by decide) (fun hc => ?_) (fun hc => ?_)
          · have h := h.1 hc
            refine lv_iconst (v := (0)) hx hb dX8_counted_199 (by decide) ?_
            refine lv_iadd hx hb dX8_counted_200 ?_
            refine lv_istore (lv' := [(4, .int (x4 + (0 : Int32))), (0, .ref (a 0)), (1, .int what), (2, .int x2), (3, .int x3), (5, .int x5)]) hx hb dX8_counted_201 hl (by decide) rfl (fun ls hl => ?_)
            refine lv_iinc (v := x5 + 1) (lv' := [(5, .int (x5 + 1)), (4, .int (x4 + (0 : Int32))), (0, .ref (a 0)), (1, .int what), (2, .int x2), (3, .int x3)]) hx hb dX8_counted_203 hl (k := 5) rfl rfl (by decide) rfl (fun ls hl => ?_)
            refine lv_goto (tgt := 171) hx hb dX8_counted_206 (by decide) ?_
            exact ih171 x2 x3 (x4 + (0 : Int32)) (x5 + 1) h ls (lv_sub hl [2, 3, 4, 5, 1, 0] rfl)
          · have h := h.2 hc
            refine lv_iconst (v := (1)) hx hb dX8_counted_195 (by decide) ?_
            refine lv_goto (tgt := 200) hx hb dX8_counted_196 (by decide) ?_
            refine lv_iadd hx hb dX8_counted_200 ?_
            refine lv_istore (lv' := [(4, .int (x4 + (1 : Int32))), (0, .ref (a 0)), (1, .int what), (2, .int x2), (3, .int x3), (5, .int x5)]) hx hb dX8_counted_201 hl (by decide) rfl (fun ls hl => ?_)
            refine lv_iinc (v := x5 + 1) (lv' := [(5, .int (x5 + 1)), (4, .int (x4 + (1 : Int32))), (0, .ref (a 0)), (1, .int what), (2, .int x2), (3, .int x3)]) hx hb dX8_counted_203 hl (k := 5) rfl rfl (by decide) rfl (fun ls hl => ?_)
            refine lv_goto (tgt := 171) hx hb dX8_counted_206 (by decide) ?_
            exact ih171 x2 x3 (x4 + (1 : Int32)) (x5 + 1) h ls (lv_sub hl [2, 3, 4, 5, 1, 0] rfl)
  have w_130 : ∀ (zn : Nat) (x2 : Int32) (x3 : Int32) (x4 : Int32) (x5 : Int32), wl_X8_counted_130 textSizes now kept what post zn x2 x3 x4 x5 → ∀ ls : Array Slot, lv_has ls 6 [(0, .ref (a 0)), (1, .int what), (2, .int x2), (3, .int x3), (4, .int x4), (5, .int x5)] → W zp l ze rm_X8_counted zs zm ([.ref (a 0), .int what] : List Value).toArray zb zt zc zs.heap [] 0 0 (MQ zb (rdI post) ([.ref (a 0), .int what] : List Value).toArray zs 0 0 (fun _ => False)) (F0 zm 130 ls []) := by
    intro zn
    induction zn with
    | zero => intro x2 x3 x4 x5 h; exact h.elim
    | succ zn ih130 =>
      intro x2 x3 x4 x5 h ls hl
      replace h : wb_X8_counted_130 textSizes now kept what post (wl_X8_counted_130 textSizes now kept what post zn) x2 x3 x4 x5 := h
      unfold wb_X8_counted_130 at h
      refine lv_iload hx hb dX8_counted_130 (lv_at hl 5 rfl) ?_
      refine lv_iconst (v := (4)) hx hb dX8_counted_132 (by decide) ?_
      refine lv_icmp_ge (tgt := 168) hx hb dX8_counted_133 (by decide) (fun hc => ?_) (fun hc => ?_)
      · have h := h.1 hc
        refine lv_iconst (v := (0)) hx hb dX8_counted_168 (by decide) ?_
        refine lv_istore (lv' := [(5, .int (0 : Int32)), (0, .ref (a 0)), (1, .int what), (2, .int x2), (3, .int x3), (4, .int x4)]) hx hb dX8_counted_169 hl (by decide) rfl (fun ls hl => ?_)
        obtain ⟨zn, h⟩ := h
        exact w_171  zn x2 x3 x4 (0 : Int32) h ls (lv_sub hl [1, 2, 3, 4, 5, 0] rfl)
      · have h := h.2 hc
        refine lv_iload_n hx hb dX8_counted_136 rfl (lv_at hl 1 rfl) ?_
        refine lv_bipush (v := (7)) hx hb dX8_counted_137 (by decide) ?_
        refine lv_icmp_ne (tgt := 168) hx hb dX8_counted_139 (by decide) (fun hc => ?_) (fun hc => ?_)
        · have h := h.1 hc
          refine lv_iconst (v := (0)) hx hb dX8_counted_168 (by decide) ?_
          refine lv_istore (lv' := [(5, .int (0 : Int32)), (0, .ref (a 0)), (1, .int what), (2, .int x2), (3, .int x3), (4, .int x4)]) hx hb dX8_counted_169 hl (by decide) rfl (fun ls hl => ?_)
          obtain ⟨zn, h⟩ := h
          exact w_171  zn x2 x3 x4 (0 : Int32) h ls (lv_sub hl [1, 2, 3, 4, 5, 0] rfl)
        · have h := h.2 hc
          refine lv_iload hx hb dX8_counted_142 (lv_at hl 4 rfl) ?_
          refine lv_aload_n hx hb dX8_counted_144 rfl (lv_at hl 0 rfl) ?_
          refine va_get (D := D) (ci := 7) (v := .ref (a 3)) (C := RX8) (T := TX8) (N := 17) hx hb hts hi_X8_counted_X8 hown hK.1 hP 0 rfl rfl 2 (by decide) (hts _ k_X8_counted_3) (fun _ h9 => h9) rfl dX8_counted_145 ?_
          refine lv_iload hx hb dX8_counted_148 (lv_at hl 5 rfl) ?_
          obtain ⟨hi, h⟩ := h
          refine x_iald (v := textSizes x5.toNatClampNeg) hx hb hK hP 3 rfl hi rfl dX8_counted_150 ?_
          refine lv_if_ge (tgt := 158) hx hb dX8_counted_151 (by decide) (fun hc => ?_) (fun hc => ?_)
          · have h := h.1 hc
            refine lv_iconst (v := (1)) hx hb dX8_counted_158 (by decide) ?_
            refine lv_iadd hx hb dX8_counted_159 ?_
            refine lv_istore (lv' := [(4, .int (x4 + (1 : Int32))), (0, .ref (a 0)), (1, .int what), (2, .int x2), (3, .int x3), (5, .int x5)]) hx hb dX8_counted_160 hl (by decide) rfl (fun ls hl => ?_)
            refine lv_iinc (v := x5 + 1) (lv' := [(5, .int (x5 + 1)), (4, .int (x4 + (1 : Int32))), (0, .ref (a 0)), (1, .int what), (2, .int x2), (3, .int x3)]) hx hb dX8_counted_162 hl (k := 5) rfl rfl (by decide) rfl (fun ls hl => ?_)
            refine lv_goto (tgt := 130) hx hb dX8_counted_165 (by decide) ?_
            exact ih130 x2 x3 (x4 + (1 : Int32)) (x5 + 1) h ls (lv_sub hl [2, 3, 4, 5, 1, 0] rfl)
          · have h := h.2 hc
            refine lv_iconst (v := (0)) hx hb dX8_counted_154 (by decide) ?_
            refine lv_goto (tgt := 159) hx hb dX8_counted_155 (by decide) ?_
            refine lv_iadd hx hb dX8_counted_159 ?_
            refine lv_istore (lv' := [(4, .int (x4 + (0 : Int32))), (0, .ref (a 0)), (1, .int what), (2, .int x2), (3, .int x3), (5, .int x5)]) hx hb dX8_counted_160 hl (by decide) rfl (fun ls hl => ?_)
            refine lv_iinc (v := x5 + 1) (lv' := [(5, .int (x5 + 1)), (4, .int (x4 + (0 : Int32))), (0, .ref (a 0)), (1, .int what), (2, .int x2), (3, .int x3)]) hx hb dX8_counted_162 hl (k := 5) rfl rfl (by decide) rfl (fun ls hl => ?_)
            refine lv_goto (tgt := 130) hx hb dX8_counted_165 (by decide) ?_
            exact ih130 x2 x3 (x4 + (0 : Int32)) (x5 + 1) h ls (lv_sub hl [2, 3, 4, 5, 1, 0] rfl)
  have w_88 : ∀ (zn : Nat) (x2 : Int32) (x3 : Int32) (x4 : Int32) (x5 : Int32), wl_X8_counted_88 rowSizes textSizes now kept what post zn x2 x3 x4 x5 → ∀ ls : Array Slot, lv_has ls 6 [(0, .ref (a 0)), (1, .int what), (2, .int x2), (3, .int x3), (4, .int x4), (5, .int x5)] → W zp l ze rm_X8_counted zs zm ([.ref (a 0), .int what] : List Value).toArray zb zt zc zs.heap [] 0 0 (MQ zb (rdI post) ([.ref (a 0), .int what] : List Value).toArray zs 0 0 (fun _ => False)) (F0 zm 88 ls []) := by
    intro zn
    induction zn with
    | zero => intro x2 x3 x4 x5 h; exact h.elim
    | succ zn ih88 =>
      intro x2 x3 x4 x5 h ls hl
      replace h : wb_X8_counted_88 rowSizes textSizes now kept what post (wl_X8_counted_88 rowSizes textSizes now kept what post zn) x2 x3 x4 x5 := h
      unfold wb_X8_counted_88 at h
      refine lv_iload hx hb dX8_counted_88 (lv_at hl 5 rfl) ?_
      refine lv_bipush (v := (6)) hx hb dX8_counted_90 (by decide) ?_
      refine lv_icmp_ge (tgt := 127) hx hb dX8_counted_92 (by decide) (fun hc => ?_) (fun hc => ?_)
      · have h := h.1 hc
        refine lv_iconst (v := (0)) hx hb dX8_counted_127 (by decide) ?_
        refine lv_istore (lv' := [(5, .int (0 : Int32)), (0, .ref (a 0)), (1, .int what), (2, .int x2), (3, .int x3), (4, .int x4)]) hx hb dX8_counted_128 hl (by decide) rfl (fun ls hl => ?_)
        obtain ⟨zn, h⟩ := h
        exact w_130  zn x2 x3 x4 (0 : Int32) h ls (lv_sub hl [1, 2, 3, 4, 5, 0] rfl)
      · have h := h.2 hc
        refine lv_iload_n hx hb dX8_counted_95 rfl (lv_at hl 1 rfl) ?_
        refine lv_bipush (v := (6)) hx hb dX8_counted_96 (by decide) ?_
        refine lv_icmp_ne (tgt := 127) hx hb dX8_counted_98 (by decide) (fun hc => ?_) (fun hc => ?_)
        · have h := h.1 hc
          refine lv_iconst (v := (0)) hx hb dX8_counted_127 (by decide) ?_
          refine lv_istore (lv' := [(5, .int (0 : Int32)), (0, .ref (a 0)), (1, .int what), (2, .int x2), (3, .int x3), (4, .int x4)]) hx hb dX8_counted_128 hl (by decide) rfl (fun ls hl => ?_)
          obtain ⟨zn, h⟩ := h
          exact w_130  zn x2 x3 x4 (0 : Int32) h ls (lv_sub hl [1, 2, 3, 4, 5, 0] rfl)
        · have h := h.2 hc
          refine lv_iload hx hb dX8_counted_101 (lv_at hl 4 rfl) ?_
          refine lv_aload_n hx hb dX8_counted_103 rfl (lv_at hl 0 rfl) ?_
          refine va_get (D := D) (ci := 7) (v := .ref (a 1)) (C := RX8) (T := TX8) (N := 17) hx hb hts hi_X8_counted_X8 hown hK.1 hP 0 rfl rfl 0 (by decide) (hts _ k_X8_counted_2) (fun _ h9 => h9) rfl dX8_counted_104 ?_
          refine lv_iload hx hb dX8_counted_107 (lv_at hl 5 rfl) ?_
          obtain ⟨hi, h⟩ := h
          refine x_iald (v := rowSizes x5.toNatClampNeg) hx hb hK hP 1 rfl hi rfl dX8_counted_109 ?_
          refine lv_if_ge (tgt := 117) hx hb dX8_counted_110 (by decide) (fun hc => ?_) (fun hc => ?_)
          · have h := h.1 hc
            refine lv_iconst (v := (1)) hx hb dX8_counted_117 (by decide) ?_
            refine lv_iadd hx hb dX8_counted_118 ?_
            refine lv_istore (lv' := [(4, .int (x4 + (1 : Int32))), (0, .ref (a 0)), (1, .int what), (2, .int x2), (3, .int x3), (5, .int x5)]) hx hb dX8_counted_119 hl (by decide) rfl (fun ls hl => ?_)
            refine lv_iinc (v := x5 + 1) (lv' := [(5, .int (x5 + 1)), (4, .int (x4 + (1 : Int32))), (0, .ref (a 0)), (1, .int what), (2, .int x2), (3, .int x3)]) hx hb dX8_counted_121 hl (k := 5) rfl rfl (by decide) rfl (fun ls hl => ?_)
            refine lv_goto (tgt := 88) hx hb dX8_counted_124 (by decide) ?_
            exact ih88 x2 x3 (x4 + (1 : Int32)) (x5 + 1) h ls (lv_sub hl [2, 3, 4, 5, 1, 0] rfl)
          · have h := h.2 hc
            refine lv_iconst (v := (0)) hx hb dX8_counted_113 (by decide) ?_
            refine lv_goto (tgt := 118) hx hb dX8_counted_114 (by decide) ?_
            refine lv_iadd hx hb dX8_counted_118 ?_
            refine lv_istore (lv' := [(4, .int (x4 + (0 : Int32))), (0, .ref (a 0)), (1, .int what), (2, .int x2), (3, .int x3), (5, .int x5)]) hx hb dX8_counted_119 hl (by decide) rfl (fun ls hl => ?_)
            refine lv_iinc (v := x5 + 1) (lv' := [(5, .int (x5 + 1)), (4, .int (x4 + (0 : Int32))), (0, .ref (a 0)), (1, .int what), (2, .int x2), (3, .int x3)]) hx hb dX8_counted_121 hl (k := 5) rfl rfl (by decide) rfl (fun ls hl => ?_)
            refine lv_goto (tgt := 88) hx hb dX8_counted_124 (by decide) ?_
            exact ih88 x2 x3 (x4 + (0 : Int32)) (x5 + 1) h ls (lv_sub hl [2, 3, 4, 5, 1, 0] rfl)
  have w_50 : ∀ (K7 : (Int32) → (Int32) → (Int32) → Prop) (ih7 : ∀ (x2 : Int32) (x3 : Int32) (x4 : Int32), K7 x2 x3 x4 → ∀ ls : Array Slot, lv_has ls 6 [(0, .ref (a 0)), (1, .int what), (2, .int x2), (3, .int x3), (4, .int x4)] → W zp l ze rm_X8_counted zs zm ([.ref (a 0), .int what] : List Value).toArray zb zt zc zs.heap [] 0 0 (MQ zb (rdI post) ([.ref (a 0), .int what] : List Value).toArray zs 0 0 (fun _ => False)) (F0 zm 7 ls [])) (x3 : Int32) (x4 : Int32) (s0 : Int32) (s1 : Int32), wb_X8_counted_50 now K7 x3 x4 s0 s1 → ∀ ls : Array Slot, lv_has ls 6 [(0, .ref (a 0)), (1, .int what), (3, .int x3), (4, .int x4)] → W zp l ze rm_X8_counted zs zm ([.ref (a 0), .int what] : List Value).toArray zb zt zc zs.heap [] 0 0 (MQ zb (rdI post) ([.ref (a 0), .int what] : List Value).toArray zs 0 0 (fun _ => False)) (F0 zm 50 ls [.int s0, .int s1]) := by
    intro K7 ih7 x3 x4 s0 s1 h ls hl
    unfold wb_X8_counted_50 at h
    refine lv_ior hx hb dX8_counted_50 ?_
    refine lv_istore_n (lv' := [(2, .int (s1 ||| s0)), (0, .ref (a 0)), (1, .int what), (3, .int x3), (4, .int x4)]) hx hb dX8_counted_51 rfl hl (by decide) rfl (fun ls hl => ?_)
    refine lv_iload_n hx hb dX8_counted_52 rfl (lv_at hl 3 rfl) ?_
    refine lv_aload_n hx hb dX8_counted_53 rfl (lv_at hl 1 rfl) ?_
    refine va_get (D := D) (ci := 7) (v := .ref (a 5)) (C := RX8) (T := TX8) (N := 17) hx hb hts hi_X8_counted_X8 hown hK.1 hP 0 rfl rfl 4 (by decide) (hts _ k_X8_counted_1) (fun _ h9 => h9) rfl dX8_counted_54 ?_
    refine lv_iconst (v := (3)) hx hb dX8_counted_57 (by decide) ?_
    refine lv_iload hx hb dX8_counted_58 (lv_at hl 4 rfl) ?_
    refine lv_iadd hx hb dX8_counted_60 ?_
    obtain ⟨hi, h⟩ := h
    refine x_iald (v := now ((3 : Int32) + x4).toNatClampNeg) hx hb hK hP 5 rfl hi rfl dX8_counted_61 ?_
    refine lv_iconst (v := (1)) hx hb dX8_counted_62 (by decide) ?_
    refine rd_callz (va_runS (As := [.int (now ((3 : Int32) + x4).toNatClampNeg), .int (1 : Int32)]) (rest := [.int x3]) ⟨hx, hb, hml, hown, hts⟩ (c_X8_isOf l D ca   (now ((3 : Int32) + x4).toNatClampNeg) (1 : Int32) _ h) (va_cwS 2 hts gX8_counted_X8_isOf rfl rfl rfl (by decide +kernel) ⟨Nat.le_of_ble_eq_true rfl, Nat.le_of_ble_eq_true rfl⟩) (PcX.preS hK (fun zk zq zh => by simp at zh)) rfl rfl hl.1 rfl (lv_room (Nat.le_of_ble_eq_true rfl)) dX8_counted_63 ⟨Nat.le_of_ble_eq_true rfl, Nat.le_of_ble_eq_true rfl⟩) (fun r4 h hz_r4 => ?_)
    try dsimp only at h
    refine lv_if_eq (tgt := 73) hx hb dX8_counted_66 (by decide) (fun hc => ?_) (fun hc => ?_)
    · have h := h.1 hc
      refine lv_iconst (v := (0)) hx hb dX8_counted_73 (by decide) ?_
      refine lv_iadd hx hb dX8_counted_74 ?_
      refine lv_istore_n (lv' := [(3, .int (x3 + (0 : Int32))), (2, .int (s1 ||| s0)), (0, .ref (a 0)), (1, .int what), (4, .int x4)]) hx hb dX8_counted_75 rfl hl (by decide) rfl (fun ls hl => ?_)
      refine lv_iinc (v := x4 + 1) (lv' := [(4, .int (x4 + 1)), (3, .int (x3 + (0 : Int32))), (2, .int (s1 ||| s0)), (0, .ref (a 0)), (1, .int what)]) hx hb dX8_counted_76 hl (k := 4) rfl rfl (by decide) rfl (fun ls hl => ?_)
      refine lv_goto (tgt := 7) hx hb dX8_counted_79 (by decide) ?_
      exact ih7 (s1 ||| s0) (x3 + (0 : Int32)) (x4 + 1) h ls (lv_sub hl [3, 4, 2, 1, 0] rfl)
    · have h := h.2 hc
      refine lv_iconst (v := (1)) hx hb dX8_counted_69 (by decide) ?_
      refine lv_goto (tgt := 74) hx hb dX8_counted_70 (by decide) ?_
      refine lv_iadd hx hb dX8_counted_74 ?_
      refine lv_istore_n (lv' := [(3, .int (x3 + (1 : Int32))), (2, .int (s1 ||| s0)), (0, .ref (a 0)), (1, .int what), (4, .int x4)]) hx hb dX8_counted_75 rfl hl (by decide) rfl (fun ls hl => ?_)
      refine lv_iinc (v := x4 + 1) (lv' := [(4, .int (x4 + 1)), (3, .int (x3 + (1 : Int32))), (2, .int (s1 ||| s0)), (0, .ref (a 0)), (1, .int what)]) hx hb dX8_counted_76 hl (k := 4) rfl rfl (by decide) rfl (fun ls hl => ?_)
      refine lv_goto (tgt := 7) hx hb dX8_counted_79 (by decide) ?_
      exact ih7 (s1 ||| s0) (x3 + (1 : Int32)) (x4 + 1) h ls (lv_sub hl [3, 4, 2, 1, 0] rfl)
  have w_7 : ∀ (zn : Nat) (x2 : Int32) (x3 : Int32) (x4 : Int32), wl_X8_counted_7 rowSizes textSizes now kept what post zn x2 x3 x4 → ∀ ls : Array Slot, lv_has ls 6 [(0, .ref (a 0)), (1, .int what), (2, .int x2), (3, .int x3), (4, .int x4)] → W zp l ze rm_X8_counted zs zm ([.ref (a 0), .int what] : List Value).toArray zb zt zc zs.heap [] 0 0 (MQ zb (rdI post) ([.ref (a 0), .int what] : List Value).toArray zs 0 0 (fun _ => False)) (F0 zm 7 ls []) := by
    intro zn
    induction zn with
    | zero => intro x2 x3 x4 h; exact h.elim
    | succ zn ih7 =>
      intro x2 x3 x4 h ls hl
      replace h : wb_X8_counted_7 rowSizes textSizes now kept what post (wl_X8_counted_7 rowSizes textSizes now kept what post zn) x2 x3 x4 := h
      unfold wb_X8_counted_7 at h
      refine lv_iload hx hb dX8_counted_7 (lv_at hl 4 rfl) ?_
      refine lv_aload_n hx hb dX8_counted_9 rfl (lv_at hl 0 rfl) ?_
      refine va_get (D := D) (ci := 7) (v := .ref (a 5)) (C := RX8) (T := TX8) (N := 17) hx hb hts hi_X8_counted_X8 hown hK.1 hP 0 rfl rfl 4 (by decide) (hts _ k_X8_counted_1) (fun _ h9 => h9) rfl dX8_counted_10 ?_
      refine lv_iconst (v := (0)) hx hb dX8_counted_13 (by decide) ?_
      refine x_iald (v := now 0) hx hb hK hP 5 rfl (vin_lit (by decide)) rfl dX8_counted_14 ?_
      refine lv_icmp_ge (tgt := 82) hx hb dX8_counted_15 (by decide) (fun hc => ?_) (fun hc => ?_)
      · have h := h.1 hc
        refine lv_iconst (v := (0)) hx hb dX8_counted_82 (by decide) ?_
        refine lv_istore (lv' := [(4, .int (0 : Int32)), (0, .ref (a 0)), (1, .int what), (2, .int x2), (3, .int x3)]) hx hb dX8_counted_83 hl (by decide) rfl (fun ls hl => ?_)
        refine lv_iconst (v := (0)) hx hb dX8_counted_85 (by decide) ?_
        refine lv_istore (lv' := [(5, .int (0 : Int32)), (4, .int (0 : Int32)), (0, .ref (a 0)), (1, .int what), (2, .int x2), (3, .int x3)]) hx hb dX8_counted_86 hl (by decide) rfl (fun ls hl => ?_)
        obtain ⟨zn, h⟩ := h
        exact w_88  zn x2 x3 (0 : Int32) (0 : Int32) h ls (lv_sub hl [2, 3, 4, 5, 1, 0] rfl)
      · have h := h.2 hc
        refine lv_iload_n hx hb dX8_counted_18 rfl (lv_at hl 2 rfl) ?_
        refine lv_aload_n hx hb dX8_counted_19 rfl (lv_at hl 0 rfl) ?_
        refine va_get (D := D) (ci := 7) (v := .ref (a 5)) (C := RX8) (T := TX8) (N := 17) hx hb hts hi_X8_counted_X8 hown hK.1 hP 0 rfl rfl 4 (by decide) (hts _ k_X8_counted_1) (fun _ h9 => h9) rfl dX8_counted_20 ?_
        refine lv_bipush (v := (63)) hx hb dX8_counted_23 (by decide) ?_
        refine lv_iload hx hb dX8_counted_25 (lv_at hl 4 rfl) ?_
        refine lv_iadd hx hb dX8_counted_27 ?_
        obtain ⟨hi, h⟩ := h
        refine x_iald (v := now ((63 : Int32) + x4).toNatClampNeg) hx hb hK hP 5 rfl hi rfl dX8_counted_28 ?_
        refine lv_bipush (v := (-9)) hx hb dX8_counted_29 (by decide) ?_
        refine lv_icmp_ne (tgt := 49) hx hb dX8_counted_31 (by decide) (fun hc => ?_) (fun hc => ?_)
        · have h := h.1 hc
          refine lv_iconst (v := (0)) hx hb dX8_counted_49 (by decide) ?_
          exact w_50 _ ih7 x3 x4 (0 : Int32) x2 h ls (lv_sub hl [0, 1, 3, 4] rfl)
        · have h := h.2 hc
          refine lv_iconst (v := (1)) hx hb dX8_counted_34 (by decide) ?_
          refine lv_aload_n hx hb dX8_counted_35 rfl (lv_at hl 0 rfl) ?_
          refine va_get (D := D) (ci := 7) (v := .ref (a 5)) (C := RX8) (T := TX8) (N := 17) hx hb hts hi_X8_counted_X8 hown hK.1 hP 0 rfl rfl 4 (by decide) (hts _ k_X8_counted_1) (fun _ h9 => h9) rfl dX8_counted_36 ?_
          refine lv_bipush (v := (15)) hx hb dX8_counted_39 (by decide) ?_
          refine lv_iload hx hb dX8_counted_41 (lv_at hl 4 rfl) ?_
          refine lv_iadd hx hb dX8_counted_43 ?_
          obtain ⟨hi, h⟩ := h
          refine x_iald (v := now ((15 : Int32) + x4).toNatClampNeg) hx hb hK hP 5 rfl hi rfl dX8_counted_44 ?_
          refine lv_ishl hx hb dX8_counted_45 ?_
          refine lv_goto (tgt := 50) hx hb dX8_counted_46 (by decide) ?_
          exact w_50 _ ih7 x3 x4 ((1 : Int32) <<< ((now ((15 : Int32) + x4).toNatClampNeg) &&& 31)) x2 h ls (lv_sub hl [0, 1, 3, 4] rfl)
  unfold wp_X8_counted at h
  refine lv_iconst (v := (0)) hx hb dX8_counted_0 (by decide) ?_
  refine lv_istore_n (lv' := [(2, .int (0 : Int32)), (0, .ref (a 0)), (1, .int what)]) hx hb dX8_counted_1 rfl hl (by decide) rfl (fun ls hl => ?_)
  refine lv_iconst (v := (0)) hx hb dX8_counted_2 (by decide) ?_
  refine lv_istore_n (lv' := [(3, .int (0 : Int32)), (2, .int (0 : Int32)), (0, .ref (a 0)), (1, .int what)]) hx hb dX8_counted_3 rfl hl (by decide) rfl (fun ls hl => ?_)
  refine lv_iconst (v := (0)) hx hb dX8_counted_4 (by decide) ?_
  refine lv_istore (lv' := [(4, .int (0 : Int32)), (3, .int (0 : Int32)), (2, .int (0 : Int32)), (0, .ref (a 0)), (1, .int what)]) hx hb dX8_counted_5 hl (by decide) rfl (fun ls hl => ?_)
  obtain ⟨zn, h⟩ := h
  exact w_7  zn (0 : Int32) (0 : Int32) (0 : Int32) h ls (lv_sub hl [3, 4, 2, 1, 0] rfl)

-- IronedQuarrelsModel.count(I)I
def wp_X8_count (rowSizes : Nat → Int32) (textSizes : Nat → Int32) (now : Nat → Int32) (kept : Nat → Int32) (what : Int32) (post : Int32 → Prop) : Prop :=
  wp_X8_in what.toInt64 (0 : Int64) (8 : Int64) (fun r1 => (r1 = 0 → (post (-1 : Int32))) ∧ (¬ r1 = 0 → (wp_X8_counted rowSizes textSizes now kept what (fun r2 => post r2))))
def rm_X8_count : Room := { frames := 5, cells := 0, slots := 0, locals := 119 }
theorem k_X8_count_1 : Cond.constantLong RX8 206 (8) ∈ wsX8_count := List.mem_of_getElem? (i := 1) (by decide +kernel)
theorem hi_X8_count_X8 : ∀ w ∈ wsX80, w ∈ wsX8_count := fun w h => List.mem_cons_of_mem _ (List.mem_append_right _ h)
set_option maxHeartbeats 4000000 in
set_option maxRecDepth 100000 in
theorem c_X8_count (l : Launch) (D : va_G) (ca : Nat → ClassId) (a : Nat → Nat) (rowSizes : Nat → Int32) (rows : Nat → Int32) (textSizes : Nat → Int32) (texts : Nat → Int32) (now : Nat → Int32) (keeps : Nat → Int32) (kept : Nat → Int32) (asked : Int32) (upper : Int64) (lower : Int64) (finding : Int32) (findings : Nat → Int32) (read : Nat → Int32) (at_ : Int32) (costs : Nat → Int32) (ways : Nat → Int64) (reach : Nat → Int32) (what : Int32) (post : Int32 → Prop) (h : wp_X8_count rowSizes textSizes now kept what post) : Met l yX8_count wsX8_count rm_X8_count (PcX D ca [.ref (a 0), .int what] (W_X8 ca a rowSizes rows textSizes texts now keeps kept asked upper lower finding findings read at_ costs ways reach)) (rdI post) 0 0 (fun _ => False) := by
  refine Met.ofW (cc := cX8_count) (maxL := 2) (ret := (some .int)) (by decide) rfl ?_
  intro zp ze zs zm za zb zt zc z1 B hml hv
  obtain ⟨rfl, hP, hK⟩ := hv
  have hx := B.exec
  have hb := B.bytes
  have hr := B.returns
  have hts := atoms_spec (ws := wsX8_count) B.pre
  have hown : zs.vm.findClass RX8 = some zm.cls := findClass_of_methodNamed B.named
  have hlocks := B.notSynchronized
  have hl := lv_entry ([.ref (a 0), .int what]) (n := 2) (Nat.le_of_ble_eq_true rfl)
  rw [lg_entry_eq]
  generalize (lg_sl ([.ref (a 0), .int what]) ++ List.replicate (2 - (lg_sl ([.ref (a 0), .int what])).length) Slot.unset).toArray = ls at hl ⊢
  replace hl : lv_has ls 2 [(0, .ref (a 0)), (1, .int what)] := hl
  show W zp l ze rm_X8_count zs zm ([.ref (a 0), .int what] : List Value).toArray zb zt zc zs.heap [] 0 0 (MQ zb (rdI post) ([.ref (a 0), .int what] : List Value).toArray zs 0 0 (fun _ => False)) (F0 zm 0 ls [])
  unfold wp_X8_count at h
  refine lv_iload_n hx hb dX8_count_0 rfl (lv_at hl 1 rfl) ?_
  refine lv_i2l hx hb dX8_count_1 rfl ?_
  refine lv_lconst (v := (0)) hx hb dX8_count_2 (by decide) ?_
  refine lv_ldc2 (v := (8)) hx hb hown (hts _ k_X8_count_1) dX8_count_3 ?_
  refine rd_callz (va_runS (As := [.long what.toInt64, .long (0 : Int64), .long (8 : Int64)]) (rest := []) ⟨hx, hb, hml, hown, hts⟩ (c_X8_in l D ca   what.toInt64 (0 : Int64) (8 : Int64) _ h) (va_cwS 3 hts gX8_count_X8_in rfl rfl rfl (by decide +kernel) ⟨Nat.le_of_ble_eq_true rfl, Nat.le_of_ble_eq_true rfl⟩) (PcX.preS hK (fun zk zq zh => by simp at zh)) rfl rfl hl.1 rfl (lv_room (Nat.le_of_ble_eq_true rfl)) dX8_count_6 ⟨Nat.le_of_ble_eq_true rfl, Nat.le_of_ble_eq_true rfl⟩) (fun r1 h hz_r1 => ?_)
  try dsimp only at h
  refine lv_if_eq (tgt := 20) hx hb dX8_count_9 (by decide) (fun hc => ?_) (fun hc => ?_)
  · have h := h.1 hc
    refine lv_iconst (v := (-1)) hx hb dX8_count_20 (by decide) ?_
    exact W.iret (v := (-1 : Int32)) hx hb hr (fun zt ht hW => ⟨(-1 : Int32), rfl, h, ht⟩) (fun zq hq => absurd hq List.not_mem_nil) dX8_count_21
  · have h := h.2 hc
    refine lv_aload_n hx hb dX8_count_12 rfl (lv_at hl 0 rfl) ?_
    refine lv_iload_n hx hb dX8_count_13 rfl (lv_at hl 1 rfl) ?_
    refine rd_calli (va_runV (As := [.int what]) (rest := []) ⟨hx, hb, hml, hown, hts⟩ (c_X8_counted l D ca a rowSizes rows textSizes texts now keeps kept asked upper lower finding findings read at_ costs ways reach what _ h) (cwV 1 hts gX8_count_X8_counted rfl rfl rfl (by decide +kernel) ⟨Nat.le_of_ble_eq_true rfl, Nat.le_of_ble_eq_true rfl⟩) (PcX.preV (q := (RX8, TX8, 17)) (ci := 7) (q0 := 0) hK hP rfl rfl hP) rfl rfl hl.1 rfl (lv_room (Nat.le_of_ble_eq_true rfl)) dX8_count_14 ⟨Nat.le_of_ble_eq_true rfl, Nat.le_of_ble_eq_true rfl⟩) (fun r2 h => ?_)
    try dsimp only at h
    refine lv_goto (tgt := 21) hx hb dX8_count_17 (by decide) ?_
    exact W.iret (v := r2) hx hb hr (fun zt ht hW => ⟨r2, rfl, h, ht⟩) (fun zq hq => absurd hq List.not_mem_nil) dX8_count_21

-- IronedQuarrelsModel.finding()I
def wp_X8_finding (finding : Int32) (post : Int32 → Prop) : Prop :=
  post finding
def rm_X8_finding : Room := { frames := 0, cells := 0, slots := 0, locals := 0 }
theorem k_X8_finding_1 : Cond.fieldLink RX8 52 "IronedQuarrelsModel" "finding" "I" ∈ wsX8_finding := List.mem_of_getElem? (i := 1) (by decide +kernel)
theorem hi_X8_finding_X8 : ∀ w ∈ wsX80, w ∈ wsX8_finding := fun w h => List.mem_cons_of_mem _ (List.mem_append_right _ h)
set_option maxHeartbeats 4000000 in
set_option maxRecDepth 100000 in
theorem c_X8_finding (l : Launch) (D : va_G) (ca : Nat → ClassId) (a : Nat → Nat) (rowSizes : Nat → Int32) (rows : Nat → Int32) (textSizes : Nat → Int32) (texts : Nat → Int32) (now : Nat → Int32) (keeps : Nat → Int32) (kept : Nat → Int32) (asked : Int32) (upper : Int64) (lower : Int64) (finding : Int32) (findings : Nat → Int32) (read : Nat → Int32) (at_ : Int32) (costs : Nat → Int32) (ways : Nat → Int64) (reach : Nat → Int32)  (post : Int32 → Prop) (h : wp_X8_finding finding post) : Met l yX8_finding wsX8_finding rm_X8_finding (PcX D ca [.ref (a 0)] (W_X8 ca a rowSizes rows textSizes texts now keeps kept asked upper lower finding findings read at_ costs ways reach)) (rdI post) 0 0 (fun _ => False) := by
  refine Met.ofW (cc := cX8_finding) (maxL := 1) (ret := (some .int)) (by decide) rfl ?_
  intro zp ze zs zm za zb zt zc z1 B hml hv
  obtain ⟨rfl, hP, hK⟩ := hv
  have hx := B.exec
  have hb := B.bytes
  have hr := B.returns
  have hts := atoms_spec (ws := wsX8_finding) B.pre
  have hown : zs.vm.findClass RX8 = some zm.cls := findClass_of_methodNamed B.named
  have hlocks := B.notSynchronized
  have hl := lv_entry ([.ref (a 0)]) (n := 1) (Nat.le_of_ble_eq_true rfl)
  rw [lg_entry_eq]
  generalize (lg_sl ([.ref (a 0)]) ++ List.replicate (1 - (lg_sl ([.ref (a 0)])).length) Slot.unset).toArray = ls at hl ⊢
  replace hl : lv_has ls 1 [(0, .ref (a 0))] := hl
  show W zp l ze rm_X8_finding zs zm ([.ref (a 0)] : List Value).toArray zb zt zc zs.heap [] 0 0 (MQ zb (rdI post) ([.ref (a 0)] : List Value).toArray zs 0 0 (fun _ => False)) (F0 zm 0 ls [])
  unfold wp_X8_finding at h
  refine lv_aload_n hx hb dX8_finding_0 rfl (lv_at hl 0 rfl) ?_
  refine va_get (D := D) (ci := 7) (v := .int finding) (C := RX8) (T := TX8) (N := 17) hx hb hts hi_X8_finding_X8 hown hK.1 hP 0 rfl rfl 10 (by decide) (hts _ k_X8_finding_1) (fun _ h9 => h9) rfl dX8_finding_1 ?_
  exact W.iret (v := finding) hx hb hr (fun zt ht hW => ⟨finding, rfl, h, ht⟩) (fun zq hq => absurd hq List.not_mem_nil) dX8_finding_4

-- IronedQuarrelsModel.findings(I)I
def wp_X8_findings (findings : Nat → Int32) (f : Int32) (post : Int32 → Prop) : Prop :=
  wp_X8_in f.toInt64 (1 : Int64) (5 : Int64) (fun r1 => (r1 = 0 → (post (-1 : Int32))) ∧ (¬ r1 = 0 → (vp_in f 6 ∧ post (findings f.toNatClampNeg))))
def rm_X8_findings : Room := { frames := 1, cells := 0, slots := 0, locals := 25 }
theorem k_X8_findings_1 : Cond.constantLong RX8 59 (5) ∈ wsX8_findings := List.mem_of_getElem? (i := 1) (by decide +kernel)
theorem k_X8_findings_2 : Cond.fieldLink RX8 36 "IronedQuarrelsModel" "findings" "[I" ∈ wsX8_findings := List.mem_of_getElem? (i := 2) (by decide +kernel)
theorem hi_X8_findings_X8 : ∀ w ∈ wsX80, w ∈ wsX8_findings := fun w h => List.mem_cons_of_mem _ (List.mem_append_right _ h)
set_option maxHeartbeats 4000000 in
set_option maxRecDepth 100000 in
theorem c_X8_findings (l : Launch) (D : va_G) (ca : Nat → ClassId) (a : Nat → Nat) (rowSizes : Nat → Int32) (rows : Nat → Int32) (textSizes : Nat → Int32) (texts : Nat → Int32) (now : Nat → Int32) (keeps : Nat → Int32) (kept : Nat → Int32) (asked : Int32) (upper : Int64) (lower : Int64) (finding : Int32) (findings : Nat → Int32) (read : Nat → Int32) (at_ : Int32) (costs : Nat → Int32) (ways : Nat → Int64) (reach : Nat → Int32) (f : Int32) (post : Int32 → Prop) (h : wp_X8_findings findings f post) : Met l yX8_findings wsX8_findings rm_X8_findings (PcX D ca [.ref (a 0), .int f] (W_X8 ca a rowSizes rows textSizes texts now keeps kept asked upper lower finding findings read at_ costs ways reach)) (rdI post) 0 0 (fun _ => False) := by
  refine Met.ofW (cc := cX8_findings) (maxL := 2) (ret := (some .int)) (by decide) rfl ?_
  intro zp ze zs zm za zb zt zc z1 B hml hv
  obtain ⟨rfl, hP, hK⟩ := hv
  have hx := B.exec
  have hb := B.bytes
  have hr := B.returns
  have hts := atoms_spec (ws := wsX8_findings) B.pre
  have hown : zs.vm.findClass RX8 = some zm.cls := findClass_of_methodNamed B.named
  have hlocks := B.notSynchronized
  have hl := lv_entry ([.ref (a 0), .int f]) (n := 2) (Nat.le_of_ble_eq_true rfl)
  rw [lg_entry_eq]
  generalize (lg_sl ([.ref (a 0), .int f]) ++ List.replicate (2 - (lg_sl ([.ref (a 0), .int f])).length) Slot.unset).toArray = ls at hl ⊢
  replace hl : lv_has ls 2 [(0, .ref (a 0)), (1, .int f)] := hl
  show W zp l ze rm_X8_findings zs zm ([.ref (a 0), .int f] : List Value).toArray zb zt zc zs.heap [] 0 0 (MQ zb (rdI post) ([.ref (a 0), .int f] : List Value).toArray zs 0 0 (fun _ => False)) (F0 zm 0 ls [])
  unfold wp_X8_findings at h
  refine lv_iload_n hx hb dX8_findings_0 rfl (lv_at hl 1 rfl) ?_
  refine lv_i2l hx hb dX8_findings_1 rfl ?_
  refine lv_lconst (v := (1)) hx hb dX8_findings_2 (by decide) ?_
  refine lv_ldc2 (v := (5)) hx hb hown (hts _ k_X8_findings_1) dX8_findings_3 ?_
  refine rd_callz (va_runS (As := [.long f.toInt64, .long (1 : Int64), .long (5 : Int64)]) (rest := []) ⟨hx, hb, hml, hown, hts⟩ (c_X8_in l D ca   f.toInt64 (1 : Int64) (5 : Int64) _ h) (va_cwS 3 hts gX8_findings_X8_in rfl rfl rfl (by decide +kernel) ⟨Nat.le_of_ble_eq_true rfl, Nat.le_of_ble_eq_true rfl⟩) (PcX.preS hK (fun zk zq zh => by simp at zh)) rfl rfl hl.1 rfl (lv_room (Nat.le_of_ble_eq_true rfl)) dX8_findings_6 ⟨Nat.le_of_ble_eq_true rfl, Nat.le_of_ble_eq_true rfl⟩) (fun r1 h hz_r1 => ?_)
  try dsimp only at h
  refine lv_if_eq (tgt := 21) hx hb dX8_findings_9 (by decide) (fun hc => ?_) (fun hc => ?_)
  · have h := h.1 hc
    refine lv_iconst (v := (-1)) hx hb dX8_findings_21 (by decide) ?_
    exact W.iret (v := (-1 : Int32)) hx hb hr (fun zt ht hW => ⟨(-1 : Int32), rfl, h, ht⟩) (fun zq hq => absurd hq List.not_mem_nil) dX8_findings_22
  · have h := h.2 hc
    refine lv_aload_n hx hb dX8_findings_12 rfl (lv_at hl 0 rfl) ?_
    refine va_get (D := D) (ci := 7) (v := .ref (a 8)) (C := RX8) (T := TX8) (N := 17) hx hb hts hi_X8_findings_X8 hown hK.1 hP 0 rfl rfl 11 (by decide) (hts _ k_X8_findings_2) (fun _ h9 => h9) rfl dX8_findings_13 ?_
    refine lv_iload_n hx hb dX8_findings_16 rfl (lv_at hl 1 rfl) ?_
    obtain ⟨hi, h⟩ := h
    refine x_iald (v := findings f.toNatClampNeg) hx hb hK hP 8 rfl hi rfl dX8_findings_17 ?_
    refine lv_goto (tgt := 22) hx hb dX8_findings_18 (by decide) ?_
    exact W.iret (v := findings f.toNatClampNeg) hx hb hr (fun zt ht hW => ⟨findings f.toNatClampNeg, rfl, h, ht⟩) (fun zq hq => absurd hq List.not_mem_nil) dX8_findings_22

-- IronedQuarrelsModel.digest()J
def wb_X8_digest_217 (textSizes : Nat → Int32) (texts : Nat → Int32) (K195 : (Int64) → (Int32) → Prop) (K217 : (Int64) → (Int32) → (Int32) → Prop) (x1 : Int64) (x3 : Int32) (x4 : Int32) : Prop :=
  vp_in x3 4 ∧ ((textSizes x3.toNatClampNeg) ≤ x4 → (K195 x1 (x3 + 1))) ∧ (¬ (textSizes x3.toNatClampNeg) ≤ x4 → (vp_in (((80 : Int32) * x3) + x4) 320 ∧ K217 (((31 : Int64) * x1) + ((texts (((80 : Int32) * x3) + x4).toNatClampNeg).toInt64)) x3 (x4 + 1)))
def wl_X8_digest_217 (textSizes : Nat → Int32) (texts : Nat → Int32) (K195 : (Int64) → (Int32) → Prop) : Nat → (Int64) → (Int32) → (Int32) → Prop
  | 0 => fun _ _ _ => False
  | zn + 1 => wb_X8_digest_217 textSizes texts K195 (wl_X8_digest_217 textSizes texts K195 zn)
def wb_X8_digest_195 (textSizes : Nat → Int32) (texts : Nat → Int32) (post : Int64 → Prop) (K195 : (Int64) → (Int32) → Prop) (x1 : Int64) (x3 : Int32) : Prop :=
  ((4 : Int32) ≤ x3 → (post x1)) ∧ (¬ (4 : Int32) ≤ x3 → (vp_in x3 4 ∧ ∃ zn, wl_X8_digest_217 textSizes texts K195 zn (((31 : Int64) * x1) + ((textSizes x3.toNatClampNeg).toInt64)) x3 (0 : Int32)))
def wl_X8_digest_195 (textSizes : Nat → Int32) (texts : Nat → Int32) (post : Int64 → Prop) : Nat → (Int64) → (Int32) → Prop
  | 0 => fun _ _ => False
  | zn + 1 => wb_X8_digest_195 textSizes texts post (wl_X8_digest_195 textSizes texts post zn)
def wb_X8_digest_150 (rowSizes : Nat → Int32) (rows : Nat → Int32) (K127 : (Int64) → (Int32) → Prop) (K150 : (Int64) → (Int32) → (Int32) → Prop) (x1 : Int64) (x3 : Int32) (x4 : Int32) : Prop :=
  vp_in x3 6 ∧ ((rowSizes x3.toNatClampNeg) ≤ x4 → (K127 x1 (x3 + 1))) ∧ (¬ (rowSizes x3.toNatClampNeg) ≤ x4 → (vp_in (((40 : Int32) * x3) + x4) 240 ∧ K150 (((31 : Int64) * x1) + ((rows (((40 : Int32) * x3) + x4).toNatClampNeg).toInt64)) x3 (x4 + 1)))
def wl_X8_digest_150 (rowSizes : Nat → Int32) (rows : Nat → Int32) (K127 : (Int64) → (Int32) → Prop) : Nat → (Int64) → (Int32) → (Int32) → Prop
  | 0 => fun _ _ _ => False
  | zn + 1 => wb_X8_digest_150 rowSizes rows K127 (wl_X8_digest_150 rowSizes rows K127 zn)
def wb_X8_digest_127 (rowSizes : Nat → Int32) (rows : Nat → Int32) (textSizes : Nat → Int32) (texts : Nat → Int32) (post : Int64 → Prop) (K127 : (Int64) → (Int32) → Prop) (x1 : Int64) (x3 : Int32) : Prop :=
  ((6 : Int32) ≤ x3 → (∃ zn, wl_X8_digest_195 textSizes texts post zn x1 (0 : Int32))) ∧ (¬ (6 : Int32) ≤ x3 → (vp_in x3 6 ∧ ∃ zn, wl_X8_digest_150 rowSizes rows K127 zn (((31 : Int64) * x1) + ((rowSizes x3.toNatClampNeg).toInt64)) x3 (0 : Int32)))
def wl_X8_digest_127 (rowSizes : Nat → Int32) (rows : Nat → Int32) (textSizes : Nat → Int32) (texts : Nat → Int32) (post : Int64 → Prop) : Nat → (Int64) → (Int32) → Prop
  | 0 => fun _ _ => False
  | zn + 1 => wb_X8_digest_127 rowSizes rows textSizes texts post (wl_X8_digest_127 rowSizes rows textSizes texts post zn)
def wb_X8_digest_82 (rowSizes : Nat → Int32) (rows : Nat → Int32) (textSizes : Nat → Int32) (texts : Nat → Int32) (keeps : Nat → Int32) (kept : Nat → Int32) (post : Int64 → Prop) (K82 : (Int64) → (Int32) → Prop) (x1 : Int64) (x3 : Int32) : Prop :=
  ((3 : Int32) ≤ x3 → (∃ zn, wl_X8_digest_127 rowSizes rows textSizes texts post zn x1 (0 : Int32))) ∧ (¬ (3 : Int32) ≤ x3 → (vp_in x3 3 ∧ ((kept x3.toNatClampNeg) = 0 → (K82 (((31 : Int64) * x1) + ((-1 : Int32).toInt64)) (x3 + 1))) ∧ (¬ (kept x3.toNatClampNeg) = 0 → (vp_in (((115 : Int32) * x3) + (1 : Int32)) 345 ∧ K82 (((31 : Int64) * x1) + ((keeps (((115 : Int32) * x3) + (1 : Int32)).toNatClampNeg).toInt64)) (x3 + 1)))))
def wl_X8_digest_82 (rowSizes : Nat → Int32) (rows : Nat → Int32) (textSizes : Nat → Int32) (texts : Nat → Int32) (keeps : Nat → Int32) (kept : Nat → Int32) (post : Int64 → Prop) : Nat → (Int64) → (Int32) → Prop
  | 0 => fun _ _ => False
  | zn + 1 => wb_X8_digest_82 rowSizes rows textSizes texts keeps kept post (wl_X8_digest_82 rowSizes rows textSizes texts keeps kept post zn)
def wb_X8_digest_46 (now : Nat → Int32) (K33 : (Int64) → (Int32) → Prop) (K46 : (Int64) → (Int32) → (Int32) → Prop) (x1 : Int64) (x3 : Int32) (x4 : Int32) : Prop :=
  ((8 : Int32) ≤ x4 → (K33 x1 (x3 + 1))) ∧ (¬ (8 : Int32) ≤ x4 → (wp_X8_told now x3 x4 (fun r1 => K46 (((31 : Int64) * x1) + r1.toInt64) x3 (x4 + 1))))
def wl_X8_digest_46 (now : Nat → Int32) (K33 : (Int64) → (Int32) → Prop) : Nat → (Int64) → (Int32) → (Int32) → Prop
  | 0 => fun _ _ _ => False
  | zn + 1 => wb_X8_digest_46 now K33 (wl_X8_digest_46 now K33 zn)
def wb_X8_digest_33 (rowSizes : Nat → Int32) (rows : Nat → Int32) (textSizes : Nat → Int32) (texts : Nat → Int32) (now : Nat → Int32) (keeps : Nat → Int32) (kept : Nat → Int32) (post : Int64 → Prop) (K33 : (Int64) → (Int32) → Prop) (x1 : Int64) (x3 : Int32) : Prop :=
  ((now 0) ≤ x3 → (∃ zn, wl_X8_digest_82 rowSizes rows textSizes texts keeps kept post zn x1 (0 : Int32))) ∧ (¬ (now 0) ≤ x3 → (∃ zn, wl_X8_digest_46 now K33 zn x1 x3 (0 : Int32)))
def wl_X8_digest_33 (rowSizes : Nat → Int32) (rows : Nat → Int32) (textSizes : Nat → Int32) (texts : Nat → Int32) (now : Nat → Int32) (keeps : Nat → Int32) (kept : Nat → Int32) (post : Int64 → Prop) : Nat → (Int64) → (Int32) → Prop
  | 0 => fun _ _ => False
  | zn + 1 => wb_X8_digest_33 rowSizes rows textSizes texts now keeps kept post (wl_X8_digest_33 rowSizes rows textSizes texts now keeps kept post zn)
def wb_X8_digest_6 (rowSizes : Nat → Int32) (rows : Nat → Int32) (textSizes : Nat → Int32) (texts : Nat → Int32) (now : Nat → Int32) (keeps : Nat → Int32) (kept : Nat → Int32) (post : Int64 → Prop) (K6 : (Int64) → (Int32) → Prop) (x1 : Int64) (x3 : Int32) : Prop :=
  ((9 : Int32) ≤ x3 → (∃ zn, wl_X8_digest_33 rowSizes rows textSizes texts now keeps kept post zn x1 (0 : Int32))) ∧ (¬ (9 : Int32) ≤ x3 → (wp_X8_counted rowSizes textSizes now kept x3 (fun r2 => K6 (((31 : Int64) * x1) + r2.toInt64) (x3 + 1))))
def wl_X8_digest_6 (rowSizes : Nat → Int32) (rows : Nat → Int32) (textSizes : Nat → Int32) (texts : Nat → Int32) (now : Nat → Int32) (keeps : Nat → Int32) (kept : Nat → Int32) (post : Int64 → Prop) : Nat → (Int64) → (Int32) → Prop
  | 0 => fun _ _ => False
  | zn + 1 => wb_X8_digest_6 rowSizes rows textSizes texts now keeps kept post (wl_X8_digest_6 rowSizes rows textSizes texts now keeps kept post zn)
def wp_X8_digest (rowSizes : Nat → Int32) (rows : Nat → Int32) (textSizes : Nat → Int32) (texts : Nat → Int32) (now : Nat → Int32) (keeps : Nat → Int32) (kept : Nat → Int32) (post : Int64 → Prop) : Prop :=
  ∃ zn, wl_X8_digest_6 rowSizes rows textSizes texts now keeps kept post zn (17 : Int64) (0 : Int32)
def rm_X8_digest : Room := { frames := 5, cells := 0, slots := 0, locals := 119 }
theorem k_X8_digest_1 : Cond.constantLong RX8 211 (17) ∈ wsX8_digest := List.mem_of_getElem? (i := 1) (by decide +kernel)
theorem k_X8_digest_2 : Cond.constantLong RX8 213 (31) ∈ wsX8_digest := List.mem_of_getElem? (i := 2) (by decide +kernel)
theorem k_X8_digest_3 : Cond.fieldLink RX8 22 "IronedQuarrelsModel" "now" "[I" ∈ wsX8_digest := List.mem_of_getElem? (i := 3) (by decide +kernel)
theorem k_X8_digest_4 : Cond.fieldLink RX8 28 "IronedQuarrelsModel" "kept" "[Z" ∈ wsX8_digest := List.mem_of_getElem? (i := 4) (by decide +kernel)
theorem k_X8_digest_5 : Cond.fieldLink RX8 25 "IronedQuarrelsModel" "keeps" "[I" ∈ wsX8_digest := List.mem_of_getElem? (i := 5) (by decide +kernel)
theorem k_X8_digest_6 : Cond.fieldLink RX8 7 "IronedQuarrelsModel" "rowSizes" "[I" ∈ wsX8_digest := List.mem_of_getElem? (i := 6) (by decide +kernel)
theorem k_X8_digest_7 : Cond.fieldLink RX8 13 "IronedQuarrelsModel" "rows" "[I" ∈ wsX8_digest := List.mem_of_getElem? (i := 7) (by decide +kernel)
theorem k_X8_digest_8 : Cond.fieldLink RX8 16 "IronedQuarrelsModel" "textSizes" "[I" ∈ wsX8_digest := List.mem_of_getElem? (i := 8) (by decide +kernel)
theorem k_X8_digest_9 : Cond.fieldLink RX8 19 "IronedQuarrelsModel" "texts" "[I" ∈ wsX8_digest := List.mem_of_getElem? (i := 9) (by decide +kernel)
theorem hi_X8_digest_X8 : ∀ w ∈ wsX80, w ∈ wsX8_digest := fun w h => List.mem_cons_of_mem _ (List.mem_append_right _ h)
set_option maxHeartbeats 4000000 in
set_option maxRecDepth 100000 in
theorem c_X8_digest (l : Launch) (D : va_G) (ca : Nat → ClassId) (a : Nat → Nat) (rowSizes : Nat → Int32) (rows : Nat → Int32) (textSizes : Nat → Int32) (texts : Nat → Int32) (now : Nat → Int32) (keeps : Nat → Int32) (kept : Nat → Int32) (asked : Int32) (upper : Int64) (lower : Int64) (finding : Int32) (findings : Nat → Int32) (read : Nat → Int32) (at_ : Int32) (costs : Nat → Int32) (ways : Nat → Int64) (reach : Nat → Int32)  (post : Int64 → Prop) (h : wp_X8_digest rowSizes rows textSizes texts now keeps kept post) : Met l yX8_digest wsX8_digest rm_X8_digest (PcX D ca [.ref (a 0)] (W_X8 ca a rowSizes rows textSizes texts now keeps kept asked upper lower finding findings read at_ costs ways reach)) (rdL post) 0 0 (fun _ => False) := by
  refine Met.ofW (cc := cX8_digest) (maxL := 5) (ret := (some .long)) (by decide) rfl ?_
  intro zp ze zs zm za zb zt zc z1 B hml hv
  obtain ⟨rfl, hP, hK⟩ := hv
  have hx := B.exec
  have hb := B.bytes
  have hr := B.returns
  have hts := atoms_spec (ws := wsX8_digest) B.pre
  have hown : zs.vm.findClass RX8 = some zm.cls := findClass_of_methodNamed B.named
  have hlocks := B.notSynchronized
  have hl := lv_entry ([.ref (a 0)]) (n := 5) (Nat.le_of_ble_eq_true rfl)
  rw [lg_entry_eq]
  generalize (lg_sl ([.ref (a 0)]) ++ List.replicate (5 - (lg_sl ([.ref (a 0)])).length) Slot.unset).toArray = ls at hl ⊢
  replace hl : lv_has ls 5 [(0, .ref (a 0))] := hl
  show W zp l ze rm_X8_digest zs zm ([.ref (a 0)] : List Value).toArray zb zt zc zs.heap [] 0 0 (MQ zb (rdL post) ([.ref (a 0)] : List Value).toArray zs 0 0 (fun _ => False)) (F0 zm 0 ls [])
  have w_217 : ∀ (K195 : (Int64) → (Int32) → Prop) (ih195 : ∀ (x1 : Int64) (x3 : Int32), K195 x1 x3 → ∀ ls : Array Slot, lv_has ls 5 [(0, .ref (a 0)), (1, .long x1), (3, .int x3)] → W zp l ze rm_X8_digest zs zm ([.ref (a 0)] : List Value).toArray zb zt zc zs.heap [] 0 0 (MQ zb (rdL post) ([.ref (a 0)] : List Value).toArray zs 0 0 (fun _ => False)) (F0 zm 195 ls [])) (zn : Nat) (x1 : Int64) (x3 : Int32) (x4 : Int32), wl_X8_digest_217 textSizes texts K195 zn x1 x3 x4 → ∀ ls : Array Slot, lv_has ls 5 [(0, .ref (a 0)), (1, .long x1), (3, .int x3), (4, .int x4)] → W zp l ze rm_X8_digest zs zm ([.ref (a 0)] : List Value).toArray zb zt zc zs.heap [] 0 0 (MQ zb (rdL post) ([.ref (a 0)] : List Value).toArray zs 0 0 (fun _ => False)) (F0 zm 217 ls []) := by
    intro K195 ih195 zn
    induction zn with
    | zero => intro x1 x3 x4 h; exact h.elim
    | succ zn ih217 =>
      intro x1 x3 x4 h ls hl
      replace h : wb_X8_digest_217 textSizes texts K195 (wl_X8_digest_217 textSizes texts K195 zn) x1 x3 x4 := h
      unfold wb_X8_digest_217 at h
      refine lv_iload hx hb dX8_digest_217 (lv_at hl 3 rfl) ?_
      refine lv_aload_n hx hb dX8_digest_219 rfl (lv_at hl 0 rfl) ?_
      refine va_get (D := D) (ci := 7) (v := .ref (a 3)) (C := RX8) (T := TX8) (N := 17) hx hb hts hi_X8_digest_X8 hown hK.1 hP 0 rfl rfl 2 (by decide) (hts _ k_X8_digest_8) (fun _ h9 => h9) rfl dX8_digest_220 ?_
      refine lv_iload_n hx hb dX8_digest_223 rfl (lv_at hl 2 rfl) ?_
      obtain ⟨hi, h⟩ := h
      refine x_iald (v := textSizes x3.toNatClampNeg) hx hb hK hP 3 rfl hi rfl dX8_digest_224 ?_
      refine lv_icmp_ge (tgt := 254) hx hb dX8_digest_225 (by decide) (fun hc => ?_) (fun hc => ?_)
      · have h := h.1 hc
        refine lv_iinc (v := x3 + 1) (lv' := [(3, .int (x3 + 1)), (0, .ref (a 0)), (1, .long x1), (4, .int x4)]) hx hb dX8_digest_254 hl (k := 2) rfl rfl (by decide) rfl (fun ls hl => ?_)
        refine lv_goto (tgt := 195) hx hb dX8_digest_257 (by decide) ?_
        exact ih195 x1 (x3 + 1) h ls (lv_sub hl [1, 2, 0] rfl)
      · have h := h.2 hc
        refine lv_ldc2 (v := (31)) hx hb hown (hts _ k_X8_digest_2) dX8_digest_228 ?_
        refine lv_lload_n hx hb dX8_digest_231 rfl (lv_at hl 1 rfl) ?_
        refine lv_lmul hx hb dX8_digest_232 ?_
        refine lv_aload_n hx hb dX8_digest_233 rfl (lv_at hl 0 rfl) ?_
        refine va_get (D := D) (ci := 7) (v := .ref (a 4)) (C := RX8) (T := TX8) (N := 17) hx hb hts hi_X8_digest_X8 hown hK.1 hP 0 rfl rfl 3 (by decide) (hts _ k_X8_digest_9) (fun _ h9 => h9) rfl dX8_digest_234 ?_
        refine lv_bipush (v := (80)) hx hb dX8_digest_237 (by decide) ?_
        refine lv_iload_n hx hb dX8_digest_239 rfl (lv_at hl 2 rfl) ?_
        refine lv_imul hx hb dX8_digest_240 ?_
        refine lv_iload hx hb dX8_digest_241 (lv_at hl 3 rfl) ?_
        refine lv_iadd hx hb dX8_digest_243 ?_
        obtain ⟨hi, h⟩ := h
        refine x_iald (v := texts (((80 : Int32) * x3) + x4).toNatClampNeg) hx hb hK hP 4 rfl hi rfl dX8_digest_244 ?_
        refine lv_i2l hx hb dX8_digest_245 rfl ?_
        refine lv_ladd hx hb dX8_digest_246 ?_
        refine lv_lstore_n (lv' := [(1, .long (((31 : Int64) * x1) + ((texts (((80 : Int32) * x3) + x4).toNatClampNeg).toInt64))), (0, .ref (a 0)), (3, .int x3), (4, .int x4)]) hx hb dX8_digest_247 rfl hl (by decide) rfl (fun ls hl => ?_)
        refine lv_iinc (v := x4 + 1) (lv' := [(4, .int (x4 + 1)), (1, .long (((31 : Int64) * x1) + ((texts (((80 : Int32) * x3) + x4).toNatClampNeg).toInt64))), (0, .ref (a 0)), (3, .int x3)]) hx hb dX8_digest_248 hl (k := 3) rfl rfl (by decide) rfl (fun ls hl => ?_)
        refine lv_goto (tgt := 217) hx hb dX8_digest_251 (by decide) ?_
        exact ih217 (((31 : Int64) * x1) + ((texts (((80 : Int32) * x3) + x4).toNatClampNeg).toInt64)) x3 (x4 + 1) h ls (lv_sub hl [2, 1, 3, 0] rfl)
  have w_195 : ∀ (zn : Nat) (x1 : Int64) (x3 : Int32), wl_X8_digest_195 textSizes texts post zn x1 x3 → ∀ ls : Array Slot, lv_has ls 5 [(0, .ref (a 0)), (1, .long x1), (3, .int x3)] → W zp l ze rm_X8_digest zs zm ([.ref (a 0)] : List Value).toArray zb zt zc zs.heap [] 0 0 (MQ zb (rdL post) ([.ref (a 0)] : List Value).toArray zs 0 0 (fun _ => False)) (F0 zm 195 ls []) := by
    intro zn
    induction zn with
    | zero => intro x1 x3 h; exact h.elim
    | succ zn ih195 =>
      intro x1 x3 h ls hl
      replace h : wb_X8_digest_195 textSizes texts post (wl_X8_digest_195 textSizes texts post zn) x1 x3 := h
      unfold wb_X8_digest_195 at h
      refine lv_iload_n hx hb dX8_digest_195 rfl (lv_at hl 2 rfl) ?_
      refine lv_iconst (v := (4)) hx hb dX8_digest_196 (by decide) ?_
      refine lv_icmp_ge (tgt := 260) hx hb dX8_digest_197 (by decide) (fun hc => ?_) (fun hc => ?_)
      · have h := h.1 hc
        refine lv_lload_n hx hb dX8_digest_260 rfl (lv_at hl 1 rfl) ?_
        exact W.lret (v := x1) hx hb hr (fun zt ht hW => ⟨x1, rfl, h, ht⟩) (fun zq hq => absurd hq List.not_mem_nil) dX8_digest_261
      · have h := h.2 hc
        refine lv_ldc2 (v := (31)) hx hb hown (hts _ k_X8_digest_2) dX8_digest_200 ?_
        refine lv_lload_n hx hb dX8_digest_203 rfl (lv_at hl 1 rfl) ?_
        refine lv_lmul hx hb dX8_digest_204 ?_
        refine lv_aload_n hx hb dX8_digest_205 rfl (lv_at hl 0 rfl) ?_
        refine va_get (D := D) (ci := 7) (v := .ref (a 3)) (C := RX8) (T := TX8) (N := 17) hx hb hts hi_X8_digest_X8 hown hK.1 hP 0 rfl rfl 2 (by decide) (hts _ k_X8_digest_8) (fun _ h9 => h9) rfl dX8_digest_206 ?_
        refine lv_iload_n hx hb dX8_digest_209 rfl (lv_at hl 2 rfl) ?_
        obtain ⟨hi, h⟩ := h
        refine x_iald (v := textSizes x3.toNatClampNeg) hx hb hK hP 3 rfl hi rfl dX8_digest_210 ?_
        refine lv_i2l hx hb dX8_digest_211 rfl ?_
        refine lv_ladd hx hb dX8_digest_212 ?_
        refine lv_lstore_n (lv' := [(1, .long (((31 : Int64) * x1) + ((textSizes x3.toNatClampNeg).toInt64))), (0, .ref (a 0)), (3, .int x3)]) hx hb dX8_digest_213 rfl hl (by decide) rfl (fun ls hl => ?_)
        refine lv_iconst (v := (0)) hx hb dX8_digest_214 (by decide) ?_
        refine lv_istore (lv' := [(4, .int (0 : Int32)), (1, .long (((31 : Int64) * x1) + ((textSizes x3.toNatClampNeg).toInt64))), (0, .ref (a 0)), (3, .int x3)]) hx hb dX8_digest_215 hl (by decide) rfl (fun ls hl => ?_)
        obtain ⟨zn, h⟩ := h
        exact w_217 _ ih195 zn (((31 : Int64) * x1) + ((textSizes x3.toNatClampNeg).toInt64)) x3 (0 : Int32) h ls (lv_sub hl [2, 1, 3, 0] rfl)
  have w_150 : ∀ (K127 : (Int64) → (Int32) → Prop) (ih127 : ∀ (x1 : Int64) (x3 : Int32), K127 x1 x3 → ∀ ls : Array Slot, lv_has ls 5 [(0, .ref (a 0)), (1, .long x1), (3, .int x3)] → W zp l ze rm_X8_digest zs zm ([.ref (a 0)] : List Value).toArray zb zt zc zs.heap [] 0 0 (MQ zb (rdL post) ([.ref (a 0)] : List Value).toArray zs 0 0 (fun _ => False)) (F0 zm 127 ls [])) (zn : Nat) (x1 : Int64) (x3 : Int32) (x4 : Int32), wl_X8_digest_150 rowSizes rows K127 zn x1 x3 x4 → ∀ ls : Array Slot, lv_has ls 5 [(0, .ref (a 0)), (1, .long x1), (3, .int x3), (4, .int x4)] → W zp l ze rm_X8_digest zs zm ([.ref (a 0)] : List Value).toArray zb zt zc zs.heap [] 0 0 (MQ zb (rdL post) ([.ref (a 0)] : List Value).toArray zs 0 0 (fun _ => False)) (F0 zm 150 ls []) := by
    intro K127 ih127 zn
    induction zn with
    | zero => intro x1 x3 x4 h; exact h.elim
    | succ zn ih150 =>
      intro x1 x3 x4 h ls hl
      replace h : wb_X8_digest_150 rowSizes rows K127 (wl_X8_digest_150 rowSizes rows K127 zn) x1 x3 x4 := h
      unfold wb_X8_digest_150 at h
      refine lv_iload hx hb dX8_digest_150 (lv_at hl 3 rfl) ?_
      refine lv_aload_n hx hb dX8_digest_152 rfl (lv_at hl 0 rfl) ?_
      refine va_get (D := D) (ci := 7) (v := .ref (a 1)) (C := RX8) (T := TX8) (N := 17) hx hb hts hi_X8_digest_X8 hown hK.1 hP 0 rfl rfl 0 (by decide) (hts _ k_X8_digest_6) (fun _ h9 => h9) rfl dX8_digest_153 ?_
      refine lv_iload_n hx hb dX8_digest_156 rfl (lv_at hl 2 rfl) ?_
      obtain ⟨hi, h⟩ := h
      refine x_iald (v := rowSizes x3.toNatClampNeg) hx hb hK hP 1 rfl hi rfl dX8_digest_157 ?_
      refine lv_icmp_ge (tgt := 187) hx hb dX8_digest_158 (by decide) (fun hc => ?_) (fun hc => ?_)
      · have h := h.1 hc
        refine lv_iinc (v := x3 + 1) (lv' := [(3, .int (x3 + 1)), (0, .ref (a 0)), (1, .long x1), (4, .int x4)]) hx hb dX8_digest_187 hl (k := 2) rfl rfl (by decide) rfl (fun ls hl => ?_)
        refine lv_goto (tgt := 127) hx hb dX8_digest_190 (by decide) ?_
        exact ih127 x1 (x3 + 1) h ls (lv_sub hl [1, 2, 0] rfl)
      · have h := h.2 hc
        refine lv_ldc2 (v := (31)) hx hb hown (hts _ k_X8_digest_2) dX8_digest_161 ?_
        refine lv_lload_n hx hb dX8_digest_164 rfl (lv_at hl 1 rfl) ?_
        refine lv_lmul hx hb dX8_digest_165 ?_
        refine lv_aload_n hx hb dX8_digest_166 rfl (lv_at hl 0 rfl) ?_
        refine va_get (D := D) (ci := 7) (v := .ref (a 2)) (C := RX8) (T := TX8) (N := 17) hx hb hts hi_X8_digest_X8 hown hK.1 hP 0 rfl rfl 1 (by decide) (hts _ k_X8_digest_7) (fun _ h9 => h9) rfl dX8_digest_167 ?_
        refine lv_bipush (v := (40)) hx hb dX8_digest_170 (by decide) ?_
        refine lv_iload_n hx hb dX8_digest_172 rfl (lv_at hl 2 rfl) ?_
        refine lv_imul hx hb dX8_digest_173 ?_
        refine lv_iload hx hb dX8_digest_174 (lv_at hl 3 rfl) ?_
        refine lv_iadd hx hb dX8_digest_176 ?_
        obtain ⟨hi, h⟩ := h
        refine x_iald (v := rows (((40 : Int32) * x3) + x4).toNatClampNeg) hx hb hK hP 2 rfl hi rfl dX8_digest_177 ?_
        refine lv_i2l hx hb dX8_digest_178 rfl ?_
        refine lv_ladd hx hb dX8_digest_179 ?_
        refine lv_lstore_n (lv' := [(1, .long (((31 : Int64) * x1) + ((rows (((40 : Int32) * x3) + x4).toNatClampNeg).toInt64))), (0, .ref (a 0)), (3, .int x3), (4, .int x4)]) hx hb dX8_digest_180 rfl hl (by decide) rfl (fun ls hl => ?_)
        refine lv_iinc (v := x4 + 1) (lv' := [(4, .int (x4 + 1)), (1, .long (((31 : Int64) * x1) + ((rows (((40 : Int32) * x3) + x4).toNatClampNeg).toInt64))), (0, .ref (a 0)), (3, .int x3)]) hx hb dX8_digest_181 hl (k := 3) rfl rfl (by decide) rfl (fun ls hl => ?_)
        refine lv_goto (tgt := 150) hx hb dX8_digest_184 (by decide) ?_
        exact ih150 (((31 : Int64) * x1) + ((rows (((40 : Int32) * x3) + x4).toNatClampNeg).toInt64)) x3 (x4 + 1) h ls (lv_sub hl [2, 1, 3, 0] rfl)
  have w_127 : ∀ (zn : Nat) (x1 : Int64) (x3 : Int32), wl_X8_digest_127 rowSizes rows textSizes texts post zn x1 x3 → ∀ ls : Array Slot, lv_has ls 5 [(0, .ref (a 0)), (1, .long x1), (3, .int x3)] → W zp l ze rm_X8_digest zs zm ([.ref (a 0)] : List Value).toArray zb zt zc zs.heap [] 0 0 (MQ zb (rdL post) ([.ref (a 0)] : List Value).toArray zs 0 0 (fun _ => False)) (F0 zm 127 ls []) := by
    intro zn
    induction zn with
    | zero => intro x1 x3 h; exact h.elim
    | succ zn ih127 =>
      intro x1 x3 h ls hl
      replace h : wb_X8_digest_127 rowSizes rows textSizes texts post (wl_X8_digest_127 rowSizes rows textSizes texts post zn) x1 x3 := h
      unfold wb_X8_digest_127 at h
      refine lv_iload_n hx hb dX8_digest_127 rfl (lv_at hl 2 rfl) ?_
      refine lv_bipush (v := (6)) hx hb dX8_digest_128 (by decide) ?_
      refine lv_icmp_ge (tgt := 193) hx hb dX8_digest_130 (by decide) (fun hc => ?_) (fun hc => ?_)
      · have h := h.1 hc
        refine lv_iconst (v := (0)) hx hb dX8_digest_193 (by decide) ?_
        refine lv_istore_n (lv' := [(3, .int (0 : Int32)), (0, .ref (a 0)), (1, .long x1)]) hx hb dX8_digest_194 rfl hl (by decide) rfl (fun ls hl => ?_)
        obtain ⟨zn, h⟩ := h
        exact w_195  zn x1 (0 : Int32) h ls (lv_sub hl [1, 2, 0] rfl)
      · have h := h.2 hc
        refine lv_ldc2 (v := (31)) hx hb hown (hts _ k_X8_digest_2) dX8_digest_133 ?_
        refine lv_lload_n hx hb dX8_digest_136 rfl (lv_at hl 1 rfl) ?_
        refine lv_lmul hx hb dX8_digest_137 ?_
        refine lv_aload_n hx hb dX8_digest_138 rfl (lv_at hl 0 rfl) ?_
        refine va_get (D := D) (ci := 7) (v := .ref (a 1)) (C := RX8) (T := TX8) (N := 17) hx hb hts hi_X8_digest_X8 hown hK.1 hP 0 rfl rfl 0 (by decide) (hts _ k_X8_digest_6) (fun _ h9 => h9) rfl dX8_digest_139 ?_
        refine lv_iload_n hx hb dX8_digest_142 rfl (lv_at hl 2 rfl) ?_
        obtain ⟨hi, h⟩ := h
        refine x_iald (v := rowSizes x3.toNatClampNeg) hx hb hK hP 1 rfl hi rfl dX8_digest_143 ?_
        refine lv_i2l hx hb dX8_digest_144 rfl ?_
        refine lv_ladd hx hb dX8_digest_145 ?_
        refine lv_lstore_n (lv' := [(1, .long (((31 : Int64) * x1) + ((rowSizes x3.toNatClampNeg).toInt64))), (0, .ref (a 0)), (3, .int x3)]) hx hb dX8_digest_146 rfl hl (by decide) rfl (fun ls hl => ?_)
        refine lv_iconst (v := (0)) hx hb dX8_digest_147 (by decide) ?_
        refine lv_istore (lv' := [(4, .int (0 : Int32)), (1, .long (((31 : Int64) * x1) + ((rowSizes x3.toNatClampNeg).toInt64))), (0, .ref (a 0)), (3, .int x3)]) hx hb dX8_digest_148 hl (by decide) rfl (fun ls hl => ?_)
        obtain ⟨zn, h⟩ := h
        exact w_150 _ ih127 zn (((31 : Int64) * x1) + ((rowSizes x3.toNatClampNeg).toInt64)) x3 (0 : Int32) h ls (lv_sub hl [2, 1, 3, 0] rfl)
  have w_82 : ∀ (zn : Nat) (x1 : Int64) (x3 : Int32), wl_X8_digest_82 rowSizes rows textSizes texts keeps kept post zn x1 x3 → ∀ ls : Array Slot, lv_has ls 5 [(0, .ref (a 0)), (1, .long x1), (3, .int x3)] → W zp l ze rm_X8_digest zs zm ([.ref (a 0)] : List Value).toArray zb zt zc zs.heap [] 0 0 (MQ zb (rdL post) ([.ref (a 0)] : List Value).toArray zs 0 0 (fun _ => False)) (F0 zm 82 ls []) := by
    intro zn
    induction zn with
    | zero => intro x1 x3 h; exact h.elim
    | succ zn ih82 =>
      intro x1 x3 h ls hl
      replace h : wb_X8_digest_82 rowSizes rows textSizes texts keeps kept post (wl_X8_digest_82 rowSizes rows textSizes texts keeps kept post zn) x1 x3 := h
      unfold wb_X8_digest_82 at h
      refine lv_iload_n hx hb dX8_digest_82 rfl (lv_at hl 2 rfl) ?_
      refine lv_iconst (v := (3)) hx hb dX8_digest_83 (by decide) ?_
      refine lv_icmp_ge (tgt := 125) hx hb dX8_digest_84 (by decide) (fun hc => ?_) (fun hc => ?_)
      · have h := h.1 hc
        refine lv_iconst (v := (0)) hx hb dX8_digest_125 (by decide) ?_
        refine lv_istore_n (lv' := [(3, .int (0 : Int32)), (0, .ref (a 0)), (1, .long x1)]) hx hb dX8_digest_126 rfl hl (by decide) rfl (fun ls hl => ?_)
        obtain ⟨zn, h⟩ := h
        exact w_127  zn x1 (0 : Int32) h ls (lv_sub hl [1, 2, 0] rfl)
      · have h := h.2 hc
        refine lv_ldc2 (v := (31)) hx hb hown (hts _ k_X8_digest_2) dX8_digest_87 ?_
        refine lv_lload_n hx hb dX8_digest_90 rfl (lv_at hl 1 rfl) ?_
        refine lv_lmul hx hb dX8_digest_91 ?_
        refine lv_aload_n hx hb dX8_digest_92 rfl (lv_at hl 0 rfl) ?_
        refine va_get (D := D) (ci := 7) (v := .ref (a 7)) (C := RX8) (T := TX8) (N := 17) hx hb hts hi_X8_digest_X8 hown hK.1 hP 0 rfl rfl 6 (by decide) (hts _ k_X8_digest_4) (fun _ h9 => h9) rfl dX8_digest_93 ?_
        refine lv_iload_n hx hb dX8_digest_96 rfl (lv_at hl 2 rfl) ?_
        obtain ⟨hi, h⟩ := h
        refine x_zald (v := kept x3.toNatClampNeg) hx hb hK hP 7 rfl hi rfl dX8_digest_97 ?_
        refine lv_if_eq (tgt := 115) hx hb dX8_digest_98 (by decide) (fun hc => ?_) (fun hc => ?_)
        · have h := h.1 hc
          refine lv_iconst (v := (-1)) hx hb dX8_digest_115 (by decide) ?_
          refine lv_i2l hx hb dX8_digest_116 rfl ?_
          refine lv_ladd hx hb dX8_digest_117 ?_
          refine lv_lstore_n (lv' := [(1, .long (((31 : Int64) * x1) + ((-1 : Int32).toInt64))), (0, .ref (a 0)), (3, .int x3)]) hx hb dX8_digest_118 rfl hl (by decide) rfl (fun ls hl => ?_)
          refine lv_iinc (v := x3 + 1) (lv' := [(3, .int (x3 + 1)), (1, .long (((31 : Int64) * x1) + ((-1 : Int32).toInt64))), (0, .ref (a 0))]) hx hb dX8_digest_119 hl (k := 2) rfl rfl (by decide) rfl (fun ls hl => ?_)
          refine lv_goto (tgt := 82) hx hb dX8_digest_122 (by decide) ?_
          exact ih82 (((31 : Int64) * x1) + ((-1 : Int32).toInt64)) (x3 + 1) h ls (lv_sub hl [2, 1, 0] rfl)
        · have h := h.2 hc
          refine lv_aload_n hx hb dX8_digest_101 rfl (lv_at hl 0 rfl) ?_
          refine va_get (D := D) (ci := 7) (v := .ref (a 6)) (C := RX8) (T := TX8) (N := 17) hx hb hts hi_X8_digest_X8 hown hK.1 hP 0 rfl rfl 5 (by decide) (hts _ k_X8_digest_5) (fun _ h9 => h9) rfl dX8_digest_102 ?_
          refine lv_bipush (v := (115)) hx hb dX8_digest_105 (by decide) ?_
          refine lv_iload_n hx hb dX8_digest_107 rfl (lv_at hl 2 rfl) ?_
          refine lv_imul hx hb dX8_digest_108 ?_
          refine lv_iconst (v := (1)) hx hb dX8_digest_109 (by decide) ?_
          refine lv_iadd hx hb dX8_digest_110 ?_
          obtain ⟨hi, h⟩ := h
          refine x_iald (v := keeps (((115 : Int32) * x3) + (1 : Int32)).toNatClampNeg) hx hb hK hP 6 rfl hi rfl dX8_digest_111 ?_
          refine lv_goto (tgt := 116) hx hb dX8_digest_112 (by decide) ?_
          refine lv_i2l hx hb dX8_digest_116 rfl ?_
          refine lv_ladd hx hb dX8_digest_117 ?_
          refine lv_lstore_n (lv' := [(1, .long (((31 : Int64) * x1) + ((keeps (((115 : Int32) * x3) + (1 : Int32)).toNatClampNeg).toInt64))), (0, .ref (a 0)), (3, .int x3)]) hx hb dX8_digest_118 rfl hl (by decide) rfl (fun ls hl => ?_)
          refine lv_iinc (v := x3 + 1) (lv' := [(3, .int (x3 + 1)), (1, .long (((31 : Int64) * x1) + ((keeps (((115 : Int32) * x3) + (1 : Int32)).toNatClampNeg).toInt64))), (0, .ref (a 0))]) hx hb dX8_digest_119 hl (k := 2) rfl rfl (by decide) rfl (fun ls hl => ?_)
          refine lv_goto (tgt := 82) hx hb dX8_digest_122 (by decide) ?_
          exact ih82 (((31 : Int64) * x1) + ((keeps (((115 : Int32) * x3) + (1 : Int32)).toNatClampNeg).toInt64)) (x3 + 1) h ls (lv_sub hl [2, 1, 0] rfl)
  have w_46 : ∀ (K33 : (Int64) → (Int32) → Prop) (ih33 : ∀ (x1 : Int64) (x3 : Int32), K33 x1 x3 → ∀ ls : Array Slot, lv_has ls 5 [(0, .ref (a 0)), (1, .long x1), (3, .int x3)] → W zp l ze rm_X8_digest zs zm ([.ref (a 0)] : List Value).toArray zb zt zc zs.heap [] 0 0 (MQ zb (rdL post) ([.ref (a 0)] : List Value).toArray zs 0 0 (fun _ => False)) (F0 zm 33 ls [])) (zn : Nat) (x1 : Int64) (x3 : Int32) (x4 : Int32), wl_X8_digest_46 now K33 zn x1 x3 x4 → ∀ ls : Array Slot, lv_has ls 5 [(0, .ref (a 0)), (1, .long x1), (3, .int x3), (4, .int x4)] → W zp l ze rm_X8_digest zs zm ([.ref (a 0)] : List Value).toArray zb zt zc zs.heap [] 0 0 (MQ zb (rdL post) ([.ref (a 0)] : List Value).toArray zs 0 0 (fun _ => False)) (F0 zm 46 ls []) := by
    intro K33 ih33 zn
    induction zn with
    | zero => intro x1 x3 x4 h; exact h.elim
    | succ zn ih46 =>
      intro x1 x3 x4 h ls hl
      replace h : wb_X8_digest_46 now K33 (wl_X8_digest_46 now K33 zn) x1 x3 x4 := h
      unfold wb_X8_digest_46 at h
      refine lv_iload hx hb dX8_digest_46 (lv_at hl 3 rfl) ?_
      refine lv_bipush (v := (8)) hx hb dX8_digest_48 (by decide) ?_
      refine lv_icmp_ge (tgt := 74) hx hb dX8_digest_50 (by decide) (fun hc => ?_) (fun hc => ?_)
      · have h := h.1 hc
        refine lv_iinc (v := x3 + 1) (lv' := [(3, .int (x3 + 1)), (0, .ref (a 0)), (1, .long x1), (4, .int x4)]) hx hb dX8_digest_74 hl (k := 2) rfl rfl (by decide) rfl (fun ls hl => ?_)
        refine lv_goto (tgt := 33) hx hb dX8_digest_77 (by decide) ?_
        exact ih33 x1 (x3 + 1) h ls (lv_sub hl [1, 2, 0] rfl)
      · have h := h.2 hc
        refine lv_ldc2 (v := (31)) hx hb hown (hts _ k_X8_digest_2) dX8_digest_53 ?_
        refine lv_lload_n hx hb dX8_digest_56 rfl (lv_at hl 1 rfl) ?_
        refine lv_lmul hx hb dX8_digest_57 ?_
        refine lv_aload_n hx hb dX8_digest_58 rfl (lv_at hl 0 rfl) ?_
        refine lv_iload_n hx hb dX8_digest_59 rfl (lv_at hl 2 rfl) ?_
        refine lv_iload hx hb dX8_digest_60 (lv_at hl 3 rfl) ?_
        refine rd_calli (va_runV (As := [.int x3, .int x4]) (rest := [.long ((31 : Int64) * x1)]) ⟨hx, hb, hml, hown, hts⟩ (c_X8_told l D ca a rowSizes rows textSizes texts now keeps kept asked upper lower finding findings read at_ costs ways reach x3 x4 _ h) (cwV 2 hts gX8_digest_X8_told rfl rfl rfl (by decide +kernel) ⟨Nat.le_of_ble_eq_true rfl, Nat.le_of_ble_eq_true rfl⟩) (PcX.preV (q := (RX8, TX8, 17)) (ci := 7) (q0 := 0) hK hP rfl rfl hP) rfl rfl hl.1 rfl (lv_room (Nat.le_of_ble_eq_true rfl)) dX8_digest_62 ⟨Nat.le_of_ble_eq_true rfl, Nat.le_of_ble_eq_true rfl⟩) (fun r1 h => ?_)
        try dsimp only at h
        refine lv_i2l hx hb dX8_digest_65 rfl ?_
        refine lv_ladd hx hb dX8_digest_66 ?_
        refine lv_lstore_n (lv' := [(1, .long (((31 : Int64) * x1) + r1.toInt64)), (0, .ref (a 0)), (3, .int x3), (4, .int x4)]) hx hb dX8_digest_67 rfl hl (by decide) rfl (fun ls hl => ?_)
        refine lv_iinc (v := x4 + 1) (lv' := [(4, .int (x4 + 1)), (1, .long (((31 : Int64) * x1) + r1.toInt64)), (0, .ref (a 0)), (3, .int x3)]) hx hb dX8_digest_68 hl (k := 3) rfl rfl (by decide) rfl (fun ls hl => ?_)
        refine lv_goto (tgt := 46) hx hb dX8_digest_71 (by decide) ?_
        exact ih46 (((31 : Int64) * x1) + r1.toInt64) x3 (x4 + 1) h ls (lv_sub hl [2, 1, 3, 0] rfl)
  have w_33 : ∀ (zn : Nat) (x1 : Int64) (x3 : Int32), wl_X8_digest_33 rowSizes rows textSizes texts now keeps kept post zn x1 x3 → ∀ ls : Array Slot, lv_has ls 5 [(0, .ref (a 0)), (1, .long x1), (3, .int x3)] → W zp l ze rm_X8_digest zs zm ([.ref (a 0)] : List Value).toArray zb zt zc zs.heap [] 0 0 (MQ zb (rdL post) ([.ref (a 0)] : List Value).toArray zs 0 0 (fun _ => False)) (F0 zm 33 ls []) := by
    intro zn
    induction zn with
    | zero => intro x1 x3 h; exact h.elim
    | succ zn ih33 =>
      intro x1 x3 h ls hl
      replace h : wb_X8_digest_33 rowSizes rows textSizes texts now keeps kept post (wl_X8_digest_33 rowSizes rows textSizes texts now keeps kept post zn) x1 x3 := h
      unfold wb_X8_digest_33 at h
      refine lv_iload_n hx hb dX8_digest_33 rfl (lv_at hl 2 rfl) ?_
      refine lv_aload_n hx hb dX8_digest_34 rfl (lv_at hl 0 rfl) ?_
      refine va_get (D := D) (ci := 7) (v := .ref (a 5)) (C := RX8) (T := TX8) (N := 17) hx hb hts hi_X8_digest_X8 hown hK.1 hP 0 rfl rfl 4 (by decide) (hts _ k_X8_digest_3) (fun _ h9 => h9) rfl dX8_digest_35 ?_
      refine lv_iconst (v := (0)) hx hb dX8_digest_38 (by decide) ?_
      refine x_iald (v := now 0) hx hb hK hP 5 rfl (vin_lit (by decide)) rfl dX8_digest_39 ?_
      refine lv_icmp_ge (tgt := 80) hx hb dX8_digest_40 (by decide) (fun hc => ?_) (fun hc => ?_)
      · have h := h.1 hc
        refine lv_iconst (v := (0)) hx hb dX8_digest_80 (by decide) ?_
        refine lv_istore_n (lv' := [(3, .int (0 : Int32)), (0, .ref (a 0)), (1, .long x1)]) hx hb dX8_digest_81 rfl hl (by decide) rfl (fun ls hl => ?_)
        obtain ⟨zn, h⟩ := h
        exact w_82  zn x1 (0 : Int32) h ls (lv_sub hl [1, 2, 0] rfl)
      · have h := h.2 hc
        refine lv_iconst (v := (0)) hx hb dX8_digest_43 (by decide) ?_
        refine lv_istore (lv' := [(4, .int (0 : Int32)), (0, .ref (a 0)), (1, .long x1), (3, .int x3)]) hx hb dX8_digest_44 hl (by decide) rfl (fun ls hl => ?_)
        obtain ⟨zn, h⟩ := h
        exact w_46 _ ih33 zn x1 x3 (0 : Int32) h ls (lv_sub hl [1, 2, 3, 0] rfl)
  have w_6 : ∀ (zn : Nat) (x1 : Int64) (x3 : Int32), wl_X8_digest_6 rowSizes rows textSizes texts now keeps kept post zn x1 x3 → ∀ ls : Array Slot, lv_has ls 5 [(0, .ref (a 0)), (1, .long x1), (3, .int x3)] → W zp l ze rm_X8_digest zs zm ([.ref (a 0)] : List Value).toArray zb zt zc zs.heap [] 0 0 (MQ zb (rdL post) ([.ref (a 0)] : List Value).toArray zs 0 0 (fun _ => False)) (F0 zm 6 ls []) := by
    intro zn
    induction zn with
    | zero => intro x1 x3 h; exact h.elim
    | succ zn ih6 =>
      intro x1 x3 h ls hl
      replace h : wb_X8_digest_6 rowSizes rows textSizes texts now keeps kept post (wl_X8_digest_6 rowSizes rows textSizes texts now keeps kept post zn) x1 x3 := h
      unfold wb_X8_digest_6 at h
      refine lv_iload_n hx hb dX8_digest_6 rfl (lv_at hl 2 rfl) ?_
      refine lv_bipush (v := (9)) hx hb dX8_digest_7 (by decide) ?_
      refine lv_icmp_ge (tgt := 31) hx hb dX8_digest_9 (by decide) (fun hc => ?_) (fun hc => ?_)
      · have h := h.1 hc
        refine lv_iconst (v := (0)) hx hb dX8_digest_31 (by decide) ?_
        refine lv_istore_n (lv' := [(3, .int (0 : Int32)), (0, .ref (a 0)), (1, .long x1)]) hx hb dX8_digest_32 rfl hl (by decide) rfl (fun ls hl => ?_)
        obtain ⟨zn, h⟩ := h
        exact w_33  zn x1 (0 : Int32) h ls (lv_sub hl [1, 2, 0] rfl)
      · have h := h.2 hc
        refine lv_ldc2 (v := (31)) hx hb hown (hts _ k_X8_digest_2) dX8_digest_12 ?_
        refine lv_lload_n hx hb dX8_digest_15 rfl (lv_at hl 1 rfl) ?_
        refine lv_lmul hx hb dX8_digest_16 ?_
        refine lv_aload_n hx hb dX8_digest_17 rfl (lv_at hl 0 rfl) ?_
        refine lv_iload_n hx hb dX8_digest_18 rfl (lv_at hl 2 rfl) ?_
        refine rd_calli (va_runV (As := [.int x3]) (rest := [.long ((31 : Int64) * x1)]) ⟨hx, hb, hml, hown, hts⟩ (c_X8_counted l D ca a rowSizes rows textSizes texts now keeps kept asked upper lower finding findings read at_ costs ways reach x3 _ h) (cwV 1 hts gX8_digest_X8_counted rfl rfl rfl (by decide +kernel) ⟨Nat.le_of_ble_eq_true rfl, Nat.le_of_ble_eq_true rfl⟩) (PcX.preV (q := (RX8, TX8, 17)) (ci := 7) (q0 := 0) hK hP rfl rfl hP) rfl rfl hl.1 rfl (lv_room (Nat.le_of_ble_eq_true rfl)) dX8_digest_19 ⟨Nat.le_of_ble_eq_true rfl, Nat.le_of_ble_eq_true rfl⟩) (fun r2 h => ?_)
        try dsimp only at h
        refine lv_i2l hx hb dX8_digest_22 rfl ?_
        refine lv_ladd hx hb dX8_digest_23 ?_
        refine lv_lstore_n (lv' := [(1, .long (((31 : Int64) * x1) + r2.toInt64)), (0, .ref (a 0)), (3, .int x3)]) hx hb dX8_digest_24 rfl hl (by decide) rfl (fun ls hl => ?_)
        refine lv_iinc (v := x3 + 1) (lv' := [(3, .int (x3 + 1)), (1, .long (((31 : Int64) * x1) + r2.toInt64)), (0, .ref (a 0))]) hx hb dX8_digest_25 hl (k := 2) rfl rfl (by decide) rfl (fun ls hl => ?_)
        refine lv_goto (tgt := 6) hx hb dX8_digest_28 (by decide) ?_
        exact ih6 (((31 : Int64) * x1) + r2.toInt64) (x3 + 1) h ls (lv_sub hl [2, 1, 0] rfl)
  unfold wp_X8_digest at h
  refine lv_ldc2 (v := (17)) hx hb hown (hts _ k_X8_digest_1) dX8_digest_0 ?_
  refine lv_lstore_n (lv' := [(1, .long (17 : Int64)), (0, .ref (a 0))]) hx hb dX8_digest_3 rfl hl (by decide) rfl (fun ls hl => ?_)
  refine lv_iconst (v := (0)) hx hb dX8_digest_4 (by decide) ?_
  refine lv_istore_n (lv' := [(3, .int (0 : Int32)), (1, .long (17 : Int64)), (0, .ref (a 0))]) hx hb dX8_digest_5 rfl hl (by decide) rfl (fun ls hl => ?_)
  obtain ⟨zn, h⟩ := h
  exact w_6  zn (17 : Int64) (0 : Int32) h ls (lv_sub hl [2, 1, 0] rfl)
