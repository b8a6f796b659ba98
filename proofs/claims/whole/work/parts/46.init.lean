/-! constructors -/
def PcI (E : State → Prop) (D : va_G) (ca : Nat → ClassId) (sz : Nat) (av : List Value) (w0 : va_W) : Array Value → State → Prop := va_Pc av (fun U => U.heap.size = sz ∧ va_P D vwCl w0 U.heap ∧ KX D ca U ∧ va_D (fun _ => True) w0 ∧ E U)
theorem PcI.preS {E : State → Prop} {D : va_G} {ca : Nat → ClassId} {wc : va_W} {s : State} {H : Heap} {As : List Value} (hE : ∀ u U : State, u.vm.Alike U.vm → E u → E U) (hE0 : E s) (hK : KX D ca s) (hP : va_P D vwCl wc H) (hD : va_D (fun _ => True) wc) : PreS s H (PcI E D ca H.size As wc) As := ⟨fun a U g mk q => ⟨q.1, q.2.1, q.2.2.1, KX.same (u := U) (U := U.calling g mk a) rfl q.2.2.2.1, q.2.2.2.2.1, hE U (U.calling g mk a) (Vm.Alike.refl U.vm) q.2.2.2.2.2⟩, fun U hU hW => ⟨rfl, by rw [hU], by rw [hU]; exact hP, hK.warm hW, hD, hE s U hW.alike hE0⟩⟩
def eT : State → Prop := fun _ => True
theorem eT.moved (u U : State) (_ : u.vm.Alike U.vm) (_ : eT u) : eT U := trivial
def eH : State → Prop := va_AO RX1
theorem eH.moved (u U : State) (hv : u.vm.Alike U.vm) (h : eH u) : eH U := va_AO.moved hv h
theorem ca_int {D : va_G} {ca : Nat → ClassId} {s : State} {cA : ClassId} (hK : va_K D vwCl (tysX ca ++ [(cA, .int)]) s) : cA = ca 0 := Option.some.inj (((hK.2 4 (cA, .int) rfl).2 : s.vm.findClass _ = some cA).symm.trans ((hK.2 0 (ca 0, .int) rfl).2 : s.vm.findClass _ = some (ca 0)))
theorem ca_boolean {D : va_G} {ca : Nat → ClassId} {s : State} {cA : ClassId} (hK : va_K D vwCl (tysX ca ++ [(cA, .boolean)]) s) : cA = ca 1 := Option.some.inj (((hK.2 4 (cA, .boolean) rfl).2 : s.vm.findClass _ = some cA).symm.trans ((hK.2 1 (ca 1, .boolean) rfl).2 : s.vm.findClass _ = some (ca 1)))
theorem ca_long {D : va_G} {ca : Nat → ClassId} {s : State} {cA : ClassId} (hK : va_K D vwCl (tysX ca ++ [(cA, .long)]) s) : cA = ca 2 := Option.some.inj (((hK.2 4 (cA, .long) rfl).2 : s.vm.findClass _ = some cA).symm.trans ((hK.2 2 (ca 2, .long) rfl).2 : s.vm.findClass _ = some (ca 2)))
theorem ca_heap {D : va_G} {ca : Nat → ClassId} {s : State} {cA : ClassId} (hK : va_K D vwCl (tysX ca ++ [(cA, .object RX1)]) s) : cA = ca 3 := by
  obtain ⟨k1, c1, a1, a2, a3, a4⟩ := (hK.2 4 (cA, .object RX1) rfl).2
  obtain ⟨k2, c2, b1, b2, b3, b4⟩ := (hK.2 3 (ca 3, .object "IronedQuarrels$Heap") rfl).2
  exact Option.some.inj (a4.symm.trans b4)
/-- a call that may make cells, and its world apart -/
theorem va_D.any {A : Nat → Prop} {w : va_W} (h : va_D A w) : va_D (fun _ => True) w := h.weaken (fun _ _ _ _ => trivial)
theorem e_fillA {nc : Nat} (hn : nc < 2 ^ 31) (d : Nat → Int32) (v : Int32) (post : (Nat → Int32) → Prop) : wp_J7_fill_53178 nc d v post = post (fun j => if j < nc then v else d j) := by
  unfold wp_J7_fill_53178
  have e0 : (fun j => if j < 0 then v else d j) = d := by funext j; simp
  have q := lpG (σ := (Nat → Int32) × Int32 × Int32) (fun K x => wb_J7_fill_53178_5 nc v post (fun u v w => K (u, v, w)) x.1 x.2.1 x.2.2) (fun z x => wl_J7_fill_53178_5 nc v post z x.1 x.2.1 x.2.2) (fun _ => rfl) (fun _ _ => rfl) nc (fun k => ((fun j => if j < k then v else d j), nI k, nI nc)) (post (fun j => if j < nc then v else d j)) ?_ ?_
  · simp only [e0] at q
    exact q
  · intro k K hk
    have c : ¬ nc ≤ k := by omega
    show wb_J7_fill_53178_5 nc v post (fun u v w => K (u, v, w)) (fun j => if j < k then v else d j) (nI k) (nI nc) = K ((fun j => if j < k + 1 then v else d j), nI (k + 1), nI nc)
    have e1 : upd (fun j => if j < k then v else d j) k v = fun j => if j < k + 1 then v else d j := by
      funext j
      show (if j = k then v else (if j < k then v else d j)) = if j < k + 1 then v else d j
      by_cases h1 : j = k
      · rw [if_pos h1, if_pos (by omega)]
      · rw [if_neg h1]
        by_cases h2 : j < k
        · rw [if_pos h2, if_pos (by omega)]
        · rw [if_neg h2, if_neg (by omega)]
    simp (disch := omega) only [wb_J7_fill_53178_5, q_le, c, q_in, q_cl, nI_1, e1]
    simp
  · intro K
    show wb_J7_fill_53178_5 nc v post (fun u v w => K (u, v, w)) _ (nI nc) (nI nc) = _
    simp (disch := omega) only [wb_J7_fill_53178_5, q_le]
    simp

def rm_X0_init : Room := { frames := 1, cells := 1, slots := 6, locals := 12 }
theorem k_X0_init_1 : Cond.methodLink RX0 3 objectInit ∈ wsX0_init := List.mem_of_getElem? (i := 1) (by decide +kernel)
theorem k_X0_init_2 : Cond.instanceMethod objectInit ∈ wsX0_init := List.mem_of_getElem? (i := 2) (by decide +kernel)
theorem k_X0_init_3 : Cond.code objectInit ⟨#[0xb1]⟩ 1 none ∈ wsX0_init := List.mem_of_getElem? (i := 3) (by decide +kernel)
theorem k_X0_init_4 : Cond.arrayClass .int ∈ wsX0_init := List.mem_of_getElem? (i := 4) (by decide +kernel)
theorem k_X0_init_5 : Cond.fieldLink RX0 9 "IronedQuarrels$Company" "tells" "[I" ∈ wsX0_init := List.mem_of_getElem? (i := 5) (by decide +kernel)
theorem hi_X0_init_X0 : ∀ w ∈ wsX00, w ∈ wsX0_init := fun w h => List.mem_cons_of_mem _ (List.mem_append_right _ h)
def po_X0_init (h0 : Nat) : (Nat → Nat) → Prop := fun a => a 0 = h0
def wd_X0_init (ca : Nat → ClassId) : (Nat → Nat) → va_W := fun a => W_X0 ca a (fun _ => 0)
set_option maxHeartbeats 8000000 in
set_option maxRecDepth 100000 in
theorem c_X0_init (l : Launch) (D : va_G) (ca : Nat → ClassId) (h0 sz : Nat) : Met l yX0_init wsX0_init rm_X0_init (PcI eT D ca sz [.ref h0] ([(h0, .inr (0, [.null]))])) (va_Qv (S := Nat → Nat) (po_X0_init h0) (fun zs zt => va_P D vwCl (wd_X0_init ca zs) zt.heap ∧ va_D (va_A ([(h0, .inr (0, [.null]))]) sz) (wd_X0_init ca zs)) (va_A ([(h0, .inr (0, [.null]))]) sz)) 1 6 (va_A ([(h0, .inr (0, [.null]))]) sz) := by
  refine Met.ofW (cc := cX0_init) (maxL := 1) (ret := none) (by decide) rfl ?_
  intro zp ze zs zm za zb zt zc z1 B hml hv
  obtain ⟨rfl, hsz, hP, hK, hD0, hE⟩ := hv
  have hx := B.exec
  have hb := B.bytes
  have hr := B.returns
  have hts := atoms_spec (ws := wsX0_init) B.pre
  have hown : zs.vm.findClass RX0 = some zm.cls := findClass_of_methodNamed B.named
  have hlocks := B.notSynchronized
  have hin : zt.name = "<init>" := (name_of_methodNamed B.named B.method).1
  subst hsz
  have hD := hD0.self (sz := zs.heap.size)
  generalize hAe : va_A ([(h0, .inr (0, [.null]))]) zs.heap.size = A at hD ⊢
  have hA : ∀ q : Nat, zs.heap.size ≤ q → A q := fun q h => by rw [← hAe]; exact Or.inr h
  have hS : va_S A zs.heap zs.heap [] := va_S.rf
  have hl := lv_entry ([.ref h0]) (n := 1) (Nat.le_of_ble_eq_true rfl)
  rw [lg_entry_eq]
  generalize (lg_sl ([.ref h0]) ++ List.replicate (1 - (lg_sl ([.ref h0])).length) Slot.unset).toArray = ls at hl ⊢
  replace hl : lv_has ls 1 [(0, .ref h0)] := hl
  show W zp l ze rm_X0_init zs zm ([.ref h0] : List Value).toArray zb zt zc zs.heap [] 0 0 (MQ zb (va_Qv (S := Nat → Nat) (po_X0_init h0) (fun zs zt => va_P D vwCl (wd_X0_init ca zs) zt.heap ∧ va_D A (wd_X0_init ca zs)) A) ([.ref h0] : List Value).toArray zs 1 6 A) (F0 zm 0 ls [])
  refine lv_aload_n hx hb dX0_init_0 rfl (lv_at hl 0 rfl) ?_
  refine W.objInit hx hb hown (hts _ k_X0_init_1) (hts _ k_X0_init_2) (hts _ k_X0_init_3) rfl (by rw [hml]; exact hl.1) rfl dX0_init_1 (Nat.le_of_ble_eq_true rfl) (Nat.le_of_ble_eq_true rfl) ?_
  refine W.eq (g2 := F0 zm 4 ls []) rfl ?_
  refine lv_aload_n hx hb dX0_init_4 rfl (lv_at hl 0 rfl) ?_
  refine lv_bipush (v := (6)) hx hb dX0_init_5 (by decide) ?_
  refine va_newa (atype := .int) (n := 6) (N' := 6) (a0 := (6, .inl (fun _ => 0))) hx hb (hts _ k_X0_init_4) rfl hK.1 hP hD hS hA (fun _ => rfl) (by decide) (by decide) (Nat.le_of_ble_eq_true rfl) (Nat.le_of_ble_eq_true rfl) (Nat.le_of_ble_eq_true rfl) dX0_init_7 (fun q7 cA H hK1 hP hD hS => ?_)
  obtain rfl := ca_int hK1
  have hP : va_P D vwCl (([(h0, .inr (0, [.null]))]) ++ ([(q7, .inl (ca 0, 6, .inl (fun _ => 0)))])) H := hP
  have hD : va_D A (([(h0, .inr (0, [.null]))]) ++ ([(q7, .inl (ca 0, 6, .inl (fun _ => 0)))])) := hD
  refine W.widen (k := 1) (n := 6) (Nat.le_of_ble_eq_true rfl) (Nat.le_of_ble_eq_true rfl) ?_
  refine va_putF (D := D) (ci := 0) (v := .ref q7) (ty := .array .int) (C := RX0) (T := TX0) (N := 1) hx hb hts hi_X0_init_X0 tyX0 tyX0_ok nmX0 hown hK.1 hP hD hS 0 rfl rfl 0 (by decide) (hts _ k_X0_init_5) (fun _ h9 => h9) rfl hin rfl (by decide +kernel) rfl rfl (Nat.le_of_ble_eq_true rfl) dX0_init_9 (fun H locs hP hD hS => ?_)
  have hP : va_P D vwCl (([(h0, .inr (0, [.ref q7]))]) ++ ([(q7, .inl (ca 0, 6, .inl (fun _ => 0)))])) H := hP
  have hD : va_D A (([(h0, .inr (0, [.ref q7]))]) ++ ([(q7, .inl (ca 0, 6, .inl (fun _ => 0)))])) := hD
  exact W.vret hx hb hr (fun zt ht hW => ⟨⟨(fun k => [h0, q7].getD k 0), rfl, rfl, by rw [ht]; exact hP, hD⟩, hS.F ht⟩) hS.2.2 dX0_init_12
def rm_X1_init : Room := { frames := 1, cells := 7, slots := 112, locals := 12 }
theorem k_X1_init_1 : Cond.methodLink RX1 3 objectInit ∈ wsX1_init := List.mem_of_getElem? (i := 1) (by decide +kernel)
theorem k_X1_init_2 : Cond.instanceMethod objectInit ∈ wsX1_init := List.mem_of_getElem? (i := 2) (by decide +kernel)
theorem k_X1_init_3 : Cond.code objectInit ⟨#[0xb1]⟩ 1 none ∈ wsX1_init := List.mem_of_getElem? (i := 3) (by decide +kernel)
theorem k_X1_init_4 : Cond.arrayClass .int ∈ wsX1_init := List.mem_of_getElem? (i := 4) (by decide +kernel)
theorem k_X1_init_5 : Cond.fieldLink RX1 9 "IronedQuarrels$Heap" "kinds" "[I" ∈ wsX1_init := List.mem_of_getElem? (i := 5) (by decide +kernel)
theorem k_X1_init_6 : Cond.fieldLink RX1 15 "IronedQuarrels$Heap" "whos" "[I" ∈ wsX1_init := List.mem_of_getElem? (i := 6) (by decide +kernel)
theorem k_X1_init_7 : Cond.fieldLink RX1 18 "IronedQuarrels$Heap" "toWhoms" "[I" ∈ wsX1_init := List.mem_of_getElem? (i := 7) (by decide +kernel)
theorem k_X1_init_8 : Cond.fieldLink RX1 21 "IronedQuarrels$Heap" "topics" "[I" ∈ wsX1_init := List.mem_of_getElem? (i := 8) (by decide +kernel)
theorem k_X1_init_9 : Cond.fieldLink RX1 24 "IronedQuarrels$Heap" "weights" "[I" ∈ wsX1_init := List.mem_of_getElem? (i := 9) (by decide +kernel)
theorem k_X1_init_10 : Cond.fieldLink RX1 27 "IronedQuarrels$Heap" "answered" "[I" ∈ wsX1_init := List.mem_of_getElem? (i := 10) (by decide +kernel)
theorem k_X1_init_11 : Cond.fieldLink RX1 30 "IronedQuarrels$Heap" "deeds" "[I" ∈ wsX1_init := List.mem_of_getElem? (i := 11) (by decide +kernel)
theorem k_X1_init_12 : Cond.fieldLink RX1 33 "IronedQuarrels$Heap" "size" "I" ∈ wsX1_init := List.mem_of_getElem? (i := 12) (by decide +kernel)
theorem k_X1_init_13 : Cond.fieldLink RX1 37 "IronedQuarrels$Heap" "saidBits" "I" ∈ wsX1_init := List.mem_of_getElem? (i := 13) (by decide +kernel)
theorem k_X1_init_14 : Cond.fieldLink RX1 40 "IronedQuarrels$Heap" "deedCount" "I" ∈ wsX1_init := List.mem_of_getElem? (i := 14) (by decide +kernel)
theorem hi_X1_init_X1 : ∀ w ∈ wsX10, w ∈ wsX1_init := fun w h => List.mem_cons_of_mem _ (List.mem_append_right _ h)
def po_X1_init (h0 : Nat) : (Nat → Nat) → Prop := fun a => a 0 = h0
def wd_X1_init (ca : Nat → ClassId) : (Nat → Nat) → va_W := fun a => W_X1 ca a (fun _ => 0) (fun _ => 0) (fun _ => 0) (fun _ => 0) (fun _ => 0) (fun _ => 0) (fun _ => 0) 0 0 0
set_option maxHeartbeats 8000000 in
set_option maxRecDepth 100000 in
theorem c_X1_init (l : Launch) (D : va_G) (ca : Nat → ClassId) (h0 sz : Nat) : Met l yX1_init wsX1_init rm_X1_init (PcI eT D ca sz [.ref h0] ([(h0, .inr (1, [.null, .null, .null, .null, .null, .null, .null, .int 0, .int 0, .int 0]))])) (va_Qv (S := Nat → Nat) (po_X1_init h0) (fun zs zt => va_P D vwCl (wd_X1_init ca zs) zt.heap ∧ va_D (va_A ([(h0, .inr (1, [.null, .null, .null, .null, .null, .null, .null, .int 0, .int 0, .int 0]))]) sz) (wd_X1_init ca zs)) (va_A ([(h0, .inr (1, [.null, .null, .null, .null, .null, .null, .null, .int 0, .int 0, .int 0]))]) sz)) 7 112 (va_A ([(h0, .inr (1, [.null, .null, .null, .null, .null, .null, .null, .int 0, .int 0, .int 0]))]) sz) := by
  refine Met.ofW (cc := cX1_init) (maxL := 1) (ret := none) (by decide) rfl ?_
  intro zp ze zs zm za zb zt zc z1 B hml hv
  obtain ⟨rfl, hsz, hP, hK, hD0, hE⟩ := hv
  have hx := B.exec
  have hb := B.bytes
  have hr := B.returns
  have hts := atoms_spec (ws := wsX1_init) B.pre
  have hown : zs.vm.findClass RX1 = some zm.cls := findClass_of_methodNamed B.named
  have hlocks := B.notSynchronized
  have hin : zt.name = "<init>" := (name_of_methodNamed B.named B.method).1
  subst hsz
  have hD := hD0.self (sz := zs.heap.size)
  generalize hAe : va_A ([(h0, .inr (1, [.null, .null, .null, .null, .null, .null, .null, .int 0, .int 0, .int 0]))]) zs.heap.size = A at hD ⊢
  have hA : ∀ q : Nat, zs.heap.size ≤ q → A q := fun q h => by rw [← hAe]; exact Or.inr h
  have hS : va_S A zs.heap zs.heap [] := va_S.rf
  have hl := lv_entry ([.ref h0]) (n := 1) (Nat.le_of_ble_eq_true rfl)
  rw [lg_entry_eq]
  generalize (lg_sl ([.ref h0]) ++ List.replicate (1 - (lg_sl ([.ref h0])).length) Slot.unset).toArray = ls at hl ⊢
  replace hl : lv_has ls 1 [(0, .ref h0)] := hl
  show W zp l ze rm_X1_init zs zm ([.ref h0] : List Value).toArray zb zt zc zs.heap [] 0 0 (MQ zb (va_Qv (S := Nat → Nat) (po_X1_init h0) (fun zs zt => va_P D vwCl (wd_X1_init ca zs) zt.heap ∧ va_D A (wd_X1_init ca zs)) A) ([.ref h0] : List Value).toArray zs 7 112 A) (F0 zm 0 ls [])
  refine lv_aload_n hx hb dX1_init_0 rfl (lv_at hl 0 rfl) ?_
  refine W.objInit hx hb hown (hts _ k_X1_init_1) (hts _ k_X1_init_2) (hts _ k_X1_init_3) rfl (by rw [hml]; exact hl.1) rfl dX1_init_1 (Nat.le_of_ble_eq_true rfl) (Nat.le_of_ble_eq_true rfl) ?_
  refine W.eq (g2 := F0 zm 4 ls []) rfl ?_
  refine lv_aload_n hx hb dX1_init_4 rfl (lv_at hl 0 rfl) ?_
  refine lv_bipush (v := (12)) hx hb dX1_init_5 (by decide) ?_
  refine va_newa (atype := .int) (n := 12) (N' := 12) (a0 := (12, .inl (fun _ => 0))) hx hb (hts _ k_X1_init_4) rfl hK.1 hP hD hS hA (fun _ => rfl) (by decide) (by decide) (Nat.le_of_ble_eq_true rfl) (Nat.le_of_ble_eq_true rfl) (Nat.le_of_ble_eq_true rfl) dX1_init_7 (fun q7 cA H hK1 hP hD hS => ?_)
  obtain rfl := ca_int hK1
  have hP : va_P D vwCl (([(h0, .inr (1, [.null, .null, .null, .null, .null, .null, .null, .int 0, .int 0, .int 0]))]) ++ ([(q7, .inl (ca 0, 12, .inl (fun _ => 0)))])) H := hP
  have hD : va_D A (([(h0, .inr (1, [.null, .null, .null, .null, .null, .null, .null, .int 0, .int 0, .int 0]))]) ++ ([(q7, .inl (ca 0, 12, .inl (fun _ => 0)))])) := hD
  refine W.widen (k := 1) (n := 12) (Nat.le_of_ble_eq_true rfl) (Nat.le_of_ble_eq_true rfl) ?_
  refine va_putF (D := D) (ci := 1) (v := .ref q7) (ty := .array .int) (C := RX1) (T := TX1) (N := 10) hx hb hts hi_X1_init_X1 tyX1 tyX1_ok nmX1 hown hK.1 hP hD hS 0 rfl rfl 0 (by decide) (hts _ k_X1_init_5) (fun _ h9 => h9) rfl hin rfl (by decide +kernel) rfl rfl (Nat.le_of_ble_eq_true rfl) dX1_init_9 (fun H locs hP hD hS => ?_)
  have hP : va_P D vwCl (([(h0, .inr (1, [.ref q7, .null, .null, .null, .null, .null, .null, .int 0, .int 0, .int 0]))]) ++ ([(q7, .inl (ca 0, 12, .inl (fun _ => 0)))])) H := hP
  have hD : va_D A (([(h0, .inr (1, [.ref q7, .null, .null, .null, .null, .null, .null, .int 0, .int 0, .int 0]))]) ++ ([(q7, .inl (ca 0, 12, .inl (fun _ => 0)))])) := hD
  refine lv_aload_n hx hb dX1_init_12 rfl (lv_at hl 0 rfl) ?_
  refine lv_bipush (v := (12)) hx hb dX1_init_13 (by decide) ?_
  refine va_newa (atype := .int) (n := 12) (N' := 12) (a0 := (12, .inl (fun _ => 0))) hx hb (hts _ k_X1_init_4) rfl hK.1 hP hD hS hA (fun _ => rfl) (by decide) (by decide) (Nat.le_of_ble_eq_true rfl) (Nat.le_of_ble_eq_true rfl) (Nat.le_of_ble_eq_true rfl) dX1_init_15 (fun q15 cA H hK1 hP hD hS => ?_)
  obtain rfl := ca_int hK1
  have hP : va_P D vwCl (([(h0, .inr (1, [.ref q7, .null, .null, .null, .null, .null, .null, .int 0, .int 0, .int 0]))]) ++ ([(q7, .inl (ca 0, 12, .inl (fun _ => 0)))]) ++ ([(q15, .inl (ca 0, 12, .inl (fun _ => 0)))])) H := hP
  have hD : va_D A (([(h0, .inr (1, [.ref q7, .null, .null, .null, .null, .null, .null, .int 0, .int 0, .int 0]))]) ++ ([(q7, .inl (ca 0, 12, .inl (fun _ => 0)))]) ++ ([(q15, .inl (ca 0, 12, .inl (fun _ => 0)))])) := hD
  refine W.widen (k := 2) (n := 24) (Nat.le_of_ble_eq_true rfl) (Nat.le_of_ble_eq_true rfl) ?_
  refine va_putF (D := D) (ci := 1) (v := .ref q15) (ty := .array .int) (C := RX1) (T := TX1) (N := 10) hx hb hts hi_X1_init_X1 tyX1 tyX1_ok nmX1 hown hK.1 hP hD hS 0 rfl rfl 1 (by decide) (hts _ k_X1_init_6) (fun _ h9 => h9) rfl hin rfl (by decide +kernel) rfl rfl (Nat.le_of_ble_eq_true rfl) dX1_init_17 (fun H locs hP hD hS => ?_)
  have hP : va_P D vwCl (([(h0, .inr (1, [.ref q7, .ref q15, .null, .null, .null, .null, .null, .int 0, .int 0, .int 0]))]) ++ ([(q7, .inl (ca 0, 12, .inl (fun _ => 0)))]) ++ ([(q15, .inl (ca 0, 12, .inl (fun _ => 0)))])) H := hP
  have hD : va_D A (([(h0, .inr (1, [.ref q7, .ref q15, .null, .null, .null, .null, .null, .int 0, .int 0, .int 0]))]) ++ ([(q7, .inl (ca 0, 12, .inl (fun _ => 0)))]) ++ ([(q15, .inl (ca 0, 12, .inl (fun _ => 0)))])) := hD
  refine lv_aload_n hx hb dX1_init_20 rfl (lv_at hl 0 rfl) ?_
  refine lv_bipush (v := (12)) hx hb dX1_init_21 (by decide) ?_
  refine va_newa (atype := .int) (n := 12) (N' := 12) (a0 := (12, .inl (fun _ => 0))) hx hb (hts _ k_X1_init_4) rfl hK.1 hP hD hS hA (fun _ => rfl) (by decide) (by decide) (Nat.le_of_ble_eq_true rfl) (Nat.le_of_ble_eq_true rfl) (Nat.le_of_ble_eq_true rfl) dX1_init_23 (fun q23 cA H hK1 hP hD hS => ?_)
  obtain rfl := ca_int hK1
  have hP : va_P D vwCl (([(h0, .inr (1, [.ref q7, .ref q15, .null, .null, .null, .null, .null, .int 0, .int 0, .int 0]))]) ++ ([(q7, .inl (ca 0, 12, .inl (fun _ => 0)))]) ++ ([(q15, .inl (ca 0, 12, .inl (fun _ => 0)))]) ++ ([(q23, .inl (ca 0, 12, .inl (fun _ => 0)))])) H := hP
  have hD : va_D A (([(h0, .inr (1, [.ref q7, .ref q15, .null, .null, .null, .null, .null, .int 0, .int 0, .int 0]))]) ++ ([(q7, .inl (ca 0, 12, .inl (fun _ => 0)))]) ++ ([(q15, .inl (ca 0, 12, .inl (fun _ => 0)))]) ++ ([(q23, .inl (ca 0, 12, .inl (fun _ => 0)))])) := hD
  refine W.widen (k := 3) (n := 36) (Nat.le_of_ble_eq_true rfl) (Nat.le_of_ble_eq_true rfl) ?_
  refine va_putF (D := D) (ci := 1) (v := .ref q23) (ty := .array .int) (C := RX1) (T := TX1) (N := 10) hx hb hts hi_X1_init_X1 tyX1 tyX1_ok nmX1 hown hK.1 hP hD hS 0 rfl rfl 2 (by decide) (hts _ k_X1_init_7) (fun _ h9 => h9) rfl hin rfl (by decide +kernel) rfl rfl (Nat.le_of_ble_eq_true rfl) dX1_init_25 (fun H locs hP hD hS => ?_)
  have hP : va_P D vwCl (([(h0, .inr (1, [.ref q7, .ref q15, .ref q23, .null, .null, .null, .null, .int 0, .int 0, .int 0]))]) ++ ([(q7, .inl (ca 0, 12, .inl (fun _ => 0)))]) ++ ([(q15, .inl (ca 0, 12, .inl (fun _ => 0)))]) ++ ([(q23, .inl (ca 0, 12, .inl (fun _ => 0)))])) H := hP
  have hD : va_D A (([(h0, .inr (1, [.ref q7, .ref q15, .ref q23, .null, .null, .null, .null, .int 0, .int 0, .int 0]))]) ++ ([(q7, .inl (ca 0, 12, .inl (fun _ => 0)))]) ++ ([(q15, .inl (ca 0, 12, .inl (fun _ => 0)))]) ++ ([(q23, .inl (ca 0, 12, .inl (fun _ => 0)))])) := hD
  refine lv_aload_n hx hb dX1_init_28 rfl (lv_at hl 0 rfl) ?_
  refine lv_bipush (v := (12)) hx hb dX1_init_29 (by decide) ?_
  refine va_newa (atype := .int) (n := 12) (N' := 12) (a0 := (12, .inl (fun _ => 0))) hx hb (hts _ k_X1_init_4) rfl hK.1 hP hD hS hA (fun _ => rfl) (by decide) (by decide) (Nat.le_of_ble_eq_true rfl) (Nat.le_of_ble_eq_true rfl) (Nat.le_of_ble_eq_true rfl) dX1_init_31 (fun q31 cA H hK1 hP hD hS => ?_)
  obtain rfl := ca_int hK1
  have hP : va_P D vwCl (([(h0, .inr (1, [.ref q7, .ref q15, .ref q23, .null, .null, .null, .null, .int 0, .int 0, .int 0]))]) ++ ([(q7, .inl (ca 0, 12, .inl (fun _ => 0)))]) ++ ([(q15, .inl (ca 0, 12, .inl (fun _ => 0)))]) ++ ([(q23, .inl (ca 0, 12, .inl (fun _ => 0)))]) ++ ([(q31, .inl (ca 0, 12, .inl (fun _ => 0)))])) H := hP
  have hD : va_D A (([(h0, .inr (1, [.ref q7, .ref q15, .ref q23, .null, .null, .null, .null, .int 0, .int 0, .int 0]))]) ++ ([(q7, .inl (ca 0, 12, .inl (fun _ => 0)))]) ++ ([(q15, .inl (ca 0, 12, .inl (fun _ => 0)))]) ++ ([(q23, .inl (ca 0, 12, .inl (fun _ => 0)))]) ++ ([(q31, .inl (ca 0, 12, .inl (fun _ => 0)))])) := hD
  refine W.widen (k := 4) (n := 48) (Nat.le_of_ble_eq_true rfl) (Nat.le_of_ble_eq_true rfl) ?_
  refine va_putF (D := D) (ci := 1) (v := .ref q31) (ty := .array .int) (C := RX1) (T := TX1) (N := 10) hx hb hts hi_X1_init_X1 tyX1 tyX1_ok nmX1 hown hK.1 hP hD hS 0 rfl rfl 3 (by decide) (hts _ k_X1_init_8) (fun _ h9 => h9) rfl hin rfl (by decide +kernel) rfl rfl (Nat.le_of_ble_eq_true rfl) dX1_init_33 (fun H locs hP hD hS => ?_)
  have hP : va_P D vwCl (([(h0, .inr (1, [.ref q7, .ref q15, .ref q23, .ref q31, .null, .null, .null, .int 0, .int 0, .int 0]))]) ++ ([(q7, .inl (ca 0, 12, .inl (fun _ => 0)))]) ++ ([(q15, .inl (ca 0, 12, .inl (fun _ => 0)))]) ++ ([(q23, .inl (ca 0, 12, .inl (fun _ => 0)))]) ++ ([(q31, .inl (ca 0, 12, .inl (fun _ => 0)))])) H := hP
  have hD : va_D A (([(h0, .inr (1, [.ref q7, .ref q15, .ref q23, .ref q31, .null, .null, .null, .int 0, .int 0, .int 0]))]) ++ ([(q7, .inl (ca 0, 12, .inl (fun _ => 0)))]) ++ ([(q15, .inl (ca 0, 12, .inl (fun _ => 0)))]) ++ ([(q23, .inl (ca 0, 12, .inl (fun _ => 0)))]) ++ ([(q31, .inl (ca 0, 12, .inl (fun _ => 0)))])) := hD
  refine lv_aload_n hx hb dX1_init_36 rfl (lv_at hl 0 rfl) ?_
  refine lv_bipush (v := (12)) hx hb dX1_init_37 (by decide) ?_
  refine va_newa (atype := .int) (n := 12) (N' := 12) (a0 := (12, .inl (fun _ => 0))) hx hb (hts _ k_X1_init_4) rfl hK.1 hP hD hS hA (fun _ => rfl) (by decide) (by decide) (Nat.le_of_ble_eq_true rfl) (Nat.le_of_ble_eq_true rfl) (Nat.le_of_ble_eq_true rfl) dX1_init_39 (fun q39 cA H hK1 hP hD hS => ?_)
  obtain rfl := ca_int hK1
  have hP : va_P D vwCl (([(h0, .inr (1, [.ref q7, .ref q15, .ref q23, .ref q31, .null, .null, .null, .int 0, .int 0, .int 0]))]) ++ ([(q7, .inl (ca 0, 12, .inl (fun _ => 0)))]) ++ ([(q15, .inl (ca 0, 12, .inl (fun _ => 0)))]) ++ ([(q23, .inl (ca 0, 12, .inl (fun _ => 0)))]) ++ ([(q31, .inl (ca 0, 12, .inl (fun _ => 0)))]) ++ ([(q39, .inl (ca 0, 12, .inl (fun _ => 0)))])) H := hP
  have hD : va_D A (([(h0, .inr (1, [.ref q7, .ref q15, .ref q23, .ref q31, .null, .null, .null, .int 0, .int 0, .int 0]))]) ++ ([(q7, .inl (ca 0, 12, .inl (fun _ => 0)))]) ++ ([(q15, .inl (ca 0, 12, .inl (fun _ => 0)))]) ++ ([(q23, .inl (ca 0, 12, .inl (fun _ => 0)))]) ++ ([(q31, .inl (ca 0, 12, .inl (fun _ => 0)))]) ++ ([(q39, .inl (ca 0, 12, .inl (fun _ => 0)))])) := hD
  refine W.widen (k := 5) (n := 60) (Nat.le_of_ble_eq_true rfl) (Nat.le_of_ble_eq_true rfl) ?_
  refine va_putF (D := D) (ci := 1) (v := .ref q39) (ty := .array .int) (C := RX1) (T := TX1) (N := 10) hx hb hts hi_X1_init_X1 tyX1 tyX1_ok nmX1 hown hK.1 hP hD hS 0 rfl rfl 4 (by decide) (hts _ k_X1_init_9) (fun _ h9 => h9) rfl hin rfl (by decide +kernel) rfl rfl (Nat.le_of_ble_eq_true rfl) dX1_init_41 (fun H locs hP hD hS => ?_)
  have hP : va_P D vwCl (([(h0, .inr (1, [.ref q7, .ref q15, .ref q23, .ref q31, .ref q39, .null, .null, .int 0, .int 0, .int 0]))]) ++ ([(q7, .inl (ca 0, 12, .inl (fun _ => 0)))]) ++ ([(q15, .inl (ca 0, 12, .inl (fun _ => 0)))]) ++ ([(q23, .inl (ca 0, 12, .inl (fun _ => 0)))]) ++ ([(q31, .inl (ca 0, 12, .inl (fun _ => 0)))]) ++ ([(q39, .inl (ca 0, 12, .inl (fun _ => 0)))])) H := hP
  have hD : va_D A (([(h0, .inr (1, [.ref q7, .ref q15, .ref q23, .ref q31, .ref q39, .null, .null, .int 0, .int 0, .int 0]))]) ++ ([(q7, .inl (ca 0, 12, .inl (fun _ => 0)))]) ++ ([(q15, .inl (ca 0, 12, .inl (fun _ => 0)))]) ++ ([(q23, .inl (ca 0, 12, .inl (fun _ => 0)))]) ++ ([(q31, .inl (ca 0, 12, .inl (fun _ => 0)))]) ++ ([(q39, .inl (ca 0, 12, .inl (fun _ => 0)))])) := hD
  refine lv_aload_n hx hb dX1_init_44 rfl (lv_at hl 0 rfl) ?_
  refine lv_bipush (v := (12)) hx hb dX1_init_45 (by decide) ?_
  refine va_newa (atype := .int) (n := 12) (N' := 12) (a0 := (12, .inl (fun _ => 0))) hx hb (hts _ k_X1_init_4) rfl hK.1 hP hD hS hA (fun _ => rfl) (by decide) (by decide) (Nat.le_of_ble_eq_true rfl) (Nat.le_of_ble_eq_true rfl) (Nat.le_of_ble_eq_true rfl) dX1_init_47 (fun q47 cA H hK1 hP hD hS => ?_)
  obtain rfl := ca_int hK1
  have hP : va_P D vwCl (([(h0, .inr (1, [.ref q7, .ref q15, .ref q23, .ref q31, .ref q39, .null, .null, .int 0, .int 0, .int 0]))]) ++ ([(q7, .inl (ca 0, 12, .inl (fun _ => 0)))]) ++ ([(q15, .inl (ca 0, 12, .inl (fun _ => 0)))]) ++ ([(q23, .inl (ca 0, 12, .inl (fun _ => 0)))]) ++ ([(q31, .inl (ca 0, 12, .inl (fun _ => 0)))]) ++ ([(q39, .inl (ca 0, 12, .inl (fun _ => 0)))]) ++ ([(q47, .inl (ca 0, 12, .inl (fun _ => 0)))])) H := hP
  have hD : va_D A (([(h0, .inr (1, [.ref q7, .ref q15, .ref q23, .ref q31, .ref q39, .null, .null, .int 0, .int 0, .int 0]))]) ++ ([(q7, .inl (ca 0, 12, .inl (fun _ => 0)))]) ++ ([(q15, .inl (ca 0, 12, .inl (fun _ => 0)))]) ++ ([(q23, .inl (ca 0, 12, .inl (fun _ => 0)))]) ++ ([(q31, .inl (ca 0, 12, .inl (fun _ => 0)))]) ++ ([(q39, .inl (ca 0, 12, .inl (fun _ => 0)))]) ++ ([(q47, .inl (ca 0, 12, .inl (fun _ => 0)))])) := hD
  refine W.widen (k := 6) (n := 72) (Nat.le_of_ble_eq_true rfl) (Nat.le_of_ble_eq_true rfl) ?_
  refine va_putF (D := D) (ci := 1) (v := .ref q47) (ty := .array .int) (C := RX1) (T := TX1) (N := 10) hx hb hts hi_X1_init_X1 tyX1 tyX1_ok nmX1 hown hK.1 hP hD hS 0 rfl rfl 5 (by decide) (hts _ k_X1_init_10) (fun _ h9 => h9) rfl hin rfl (by decide +kernel) rfl rfl (Nat.le_of_ble_eq_true rfl) dX1_init_49 (fun H locs hP hD hS => ?_)
  have hP : va_P D vwCl (([(h0, .inr (1, [.ref q7, .ref q15, .ref q23, .ref q31, .ref q39, .ref q47, .null, .int 0, .int 0, .int 0]))]) ++ ([(q7, .inl (ca 0, 12, .inl (fun _ => 0)))]) ++ ([(q15, .inl (ca 0, 12, .inl (fun _ => 0)))]) ++ ([(q23, .inl (ca 0, 12, .inl (fun _ => 0)))]) ++ ([(q31, .inl (ca 0, 12, .inl (fun _ => 0)))]) ++ ([(q39, .inl (ca 0, 12, .inl (fun _ => 0)))]) ++ ([(q47, .inl (ca 0, 12, .inl (fun _ => 0)))])) H := hP
  have hD : va_D A (([(h0, .inr (1, [.ref q7, .ref q15, .ref q23, .ref q31, .ref q39, .ref q47, .null, .int 0, .int 0, .int 0]))]) ++ ([(q7, .inl (ca 0, 12, .inl (fun _ => 0)))]) ++ ([(q15, .inl (ca 0, 12, .inl (fun _ => 0)))]) ++ ([(q23, .inl (ca 0, 12, .inl (fun _ => 0)))]) ++ ([(q31, .inl (ca 0, 12, .inl (fun _ => 0)))]) ++ ([(q39, .inl (ca 0, 12, .inl (fun _ => 0)))]) ++ ([(q47, .inl (ca 0, 12, .inl (fun _ => 0)))])) := hD
  refine lv_aload_n hx hb dX1_init_52 rfl (lv_at hl 0 rfl) ?_
  refine lv_bipush (v := (40)) hx hb dX1_init_53 (by decide) ?_
  refine va_newa (atype := .int) (n := 40) (N' := 40) (a0 := (40, .inl (fun _ => 0))) hx hb (hts _ k_X1_init_4) rfl hK.1 hP hD hS hA (fun _ => rfl) (by decide) (by decide) (Nat.le_of_ble_eq_true rfl) (Nat.le_of_ble_eq_true rfl) (Nat.le_of_ble_eq_true rfl) dX1_init_55 (fun q55 cA H hK1 hP hD hS => ?_)
  obtain rfl := ca_int hK1
  have hP : va_P D vwCl (([(h0, .inr (1, [.ref q7, .ref q15, .ref q23, .ref q31, .ref q39, .ref q47, .null, .int 0, .int 0, .int 0]))]) ++ ([(q7, .inl (ca 0, 12, .inl (fun _ => 0)))]) ++ ([(q15, .inl (ca 0, 12, .inl (fun _ => 0)))]) ++ ([(q23, .inl (ca 0, 12, .inl (fun _ => 0)))]) ++ ([(q31, .inl (ca 0, 12, .inl (fun _ => 0)))]) ++ ([(q39, .inl (ca 0, 12, .inl (fun _ => 0)))]) ++ ([(q47, .inl (ca 0, 12, .inl (fun _ => 0)))]) ++ ([(q55, .inl (ca 0, 40, .inl (fun _ => 0)))])) H := hP
  have hD : va_D A (([(h0, .inr (1, [.ref q7, .ref q15, .ref q23, .ref q31, .ref q39, .ref q47, .null, .int 0, .int 0, .int 0]))]) ++ ([(q7, .inl (ca 0, 12, .inl (fun _ => 0)))]) ++ ([(q15, .inl (ca 0, 12, .inl (fun _ => 0)))]) ++ ([(q23, .inl (ca 0, 12, .inl (fun _ => 0)))]) ++ ([(q31, .inl (ca 0, 12, .inl (fun _ => 0)))]) ++ ([(q39, .inl (ca 0, 12, .inl (fun _ => 0)))]) ++ ([(q47, .inl (ca 0, 12, .inl (fun _ => 0)))]) ++ ([(q55, .inl (ca 0, 40, .inl (fun _ => 0)))])) := hD
  refine W.widen (k := 7) (n := 112) (Nat.le_of_ble_eq_true rfl) (Nat.le_of_ble_eq_true rfl) ?_
  refine va_putF (D := D) (ci := 1) (v := .ref q55) (ty := .array .int) (C := RX1) (T := TX1) (N := 10) hx hb hts hi_X1_init_X1 tyX1 tyX1_ok nmX1 hown hK.1 hP hD hS 0 rfl rfl 6 (by decide) (hts _ k_X1_init_11) (fun _ h9 => h9) rfl hin rfl (by decide +kernel) rfl rfl (Nat.le_of_ble_eq_true rfl) dX1_init_57 (fun H locs hP hD hS => ?_)
  have hP : va_P D vwCl (([(h0, .inr (1, [.ref q7, .ref q15, .ref q23, .ref q31, .ref q39, .ref q47, .ref q55, .int 0, .int 0, .int 0]))]) ++ ([(q7, .inl (ca 0, 12, .inl (fun _ => 0)))]) ++ ([(q15, .inl (ca 0, 12, .inl (fun _ => 0)))]) ++ ([(q23, .inl (ca 0, 12, .inl (fun _ => 0)))]) ++ ([(q31, .inl (ca 0, 12, .inl (fun _ => 0)))]) ++ ([(q39, .inl (ca 0, 12, .inl (fun _ => 0)))]) ++ ([(q47, .inl (ca 0, 12, .inl (fun _ => 0)))]) ++ ([(q55, .inl (ca 0, 40, .inl (fun _ => 0)))])) H := hP
  have hD : va_D A (([(h0, .inr (1, [.ref q7, .ref q15, .ref q23, .ref q31, .ref q39, .ref q47, .ref q55, .int 0, .int 0, .int 0]))]) ++ ([(q7, .inl (ca 0, 12, .inl (fun _ => 0)))]) ++ ([(q15, .inl (ca 0, 12, .inl (fun _ => 0)))]) ++ ([(q23, .inl (ca 0, 12, .inl (fun _ => 0)))]) ++ ([(q31, .inl (ca 0, 12, .inl (fun _ => 0)))]) ++ ([(q39, .inl (ca 0, 12, .inl (fun _ => 0)))]) ++ ([(q47, .inl (ca 0, 12, .inl (fun _ => 0)))]) ++ ([(q55, .inl (ca 0, 40, .inl (fun _ => 0)))])) := hD
  refine lv_aload_n hx hb dX1_init_60 rfl (lv_at hl 0 rfl) ?_
  refine lv_iconst (v := (0)) hx hb dX1_init_61 (by decide) ?_
  refine va_put (D := D) (ci := 1) (v := .int 0) (ty := .int) (C := RX1) (T := TX1) (N := 10) hx hb hts hi_X1_init_X1 tyX1 tyX1_ok nmX1 hown hK.1 hP hD hS 0 rfl rfl 7 (by decide) (hts _ k_X1_init_12) (fun _ h9 => h9) rfl (by decide +kernel) rfl rfl (Nat.le_of_ble_eq_true rfl) dX1_init_62 (fun H locs hP hD hS => ?_)
  have hP : va_P D vwCl (([(h0, .inr (1, [.ref q7, .ref q15, .ref q23, .ref q31, .ref q39, .ref q47, .ref q55, .int 0, .int 0, .int 0]))]) ++ ([(q7, .inl (ca 0, 12, .inl (fun _ => 0)))]) ++ ([(q15, .inl (ca 0, 12, .inl (fun _ => 0)))]) ++ ([(q23, .inl (ca 0, 12, .inl (fun _ => 0)))]) ++ ([(q31, .inl (ca 0, 12, .inl (fun _ => 0)))]) ++ ([(q39, .inl (ca 0, 12, .inl (fun _ => 0)))]) ++ ([(q47, .inl (ca 0, 12, .inl (fun _ => 0)))]) ++ ([(q55, .inl (ca 0, 40, .inl (fun _ => 0)))])) H := hP
  have hD : va_D A (([(h0, .inr (1, [.ref q7, .ref q15, .ref q23, .ref q31, .ref q39, .ref q47, .ref q55, .int 0, .int 0, .int 0]))]) ++ ([(q7, .inl (ca 0, 12, .inl (fun _ => 0)))]) ++ ([(q15, .inl (ca 0, 12, .inl (fun _ => 0)))]) ++ ([(q23, .inl (ca 0, 12, .inl (fun _ => 0)))]) ++ ([(q31, .inl (ca 0, 12, .inl (fun _ => 0)))]) ++ ([(q39, .inl (ca 0, 12, .inl (fun _ => 0)))]) ++ ([(q47, .inl (ca 0, 12, .inl (fun _ => 0)))]) ++ ([(q55, .inl (ca 0, 40, .inl (fun _ => 0)))])) := hD
  refine lv_aload_n hx hb dX1_init_65 rfl (lv_at hl 0 rfl) ?_
  refine lv_iconst (v := (0)) hx hb dX1_init_66 (by decide) ?_
  refine va_put (D := D) (ci := 1) (v := .int 0) (ty := .int) (C := RX1) (T := TX1) (N := 10) hx hb hts hi_X1_init_X1 tyX1 tyX1_ok nmX1 hown hK.1 hP hD hS 0 rfl rfl 8 (by decide) (hts _ k_X1_init_13) (fun _ h9 => h9) rfl (by decide +kernel) rfl rfl (Nat.le_of_ble_eq_true rfl) dX1_init_67 (fun H locs hP hD hS => ?_)
  have hP : va_P D vwCl (([(h0, .inr (1, [.ref q7, .ref q15, .ref q23, .ref q31, .ref q39, .ref q47, .ref q55, .int 0, .int 0, .int 0]))]) ++ ([(q7, .inl (ca 0, 12, .inl (fun _ => 0)))]) ++ ([(q15, .inl (ca 0, 12, .inl (fun _ => 0)))]) ++ ([(q23, .inl (ca 0, 12, .inl (fun _ => 0)))]) ++ ([(q31, .inl (ca 0, 12, .inl (fun _ => 0)))]) ++ ([(q39, .inl (ca 0, 12, .inl (fun _ => 0)))]) ++ ([(q47, .inl (ca 0, 12, .inl (fun _ => 0)))]) ++ ([(q55, .inl (ca 0, 40, .inl (fun _ => 0)))])) H := hP
  have hD : va_D A (([(h0, .inr (1, [.ref q7, .ref q15, .ref q23, .ref q31, .ref q39, .ref q47, .ref q55, .int 0, .int 0, .int 0]))]) ++ ([(q7, .inl (ca 0, 12, .inl (fun _ => 0)))]) ++ ([(q15, .inl (ca 0, 12, .inl (fun _ => 0)))]) ++ ([(q23, .inl (ca 0, 12, .inl (fun _ => 0)))]) ++ ([(q31, .inl (ca 0, 12, .inl (fun _ => 0)))]) ++ ([(q39, .inl (ca 0, 12, .inl (fun _ => 0)))]) ++ ([(q47, .inl (ca 0, 12, .inl (fun _ => 0)))]) ++ ([(q55, .inl (ca 0, 40, .inl (fun _ => 0)))])) := hD
  refine lv_aload_n hx hb dX1_init_70 rfl (lv_at hl 0 rfl) ?_
  refine lv_iconst (v := (0)) hx hb dX1_init_71 (by decide) ?_
  refine va_put (D := D) (ci := 1) (v := .int 0) (ty := .int) (C := RX1) (T := TX1) (N := 10) hx hb hts hi_X1_init_X1 tyX1 tyX1_ok nmX1 hown hK.1 hP hD hS 0 rfl rfl 9 (by decide) (hts _ k_X1_init_14) (fun _ h9 => h9) rfl (by decide +kernel) rfl rfl (Nat.le_of_ble_eq_true rfl) dX1_init_72 (fun H locs hP hD hS => ?_)
  have hP : va_P D vwCl (([(h0, .inr (1, [.ref q7, .ref q15, .ref q23, .ref q31, .ref q39, .ref q47, .ref q55, .int 0, .int 0, .int 0]))]) ++ ([(q7, .inl (ca 0, 12, .inl (fun _ => 0)))]) ++ ([(q15, .inl (ca 0, 12, .inl (fun _ => 0)))]) ++ ([(q23, .inl (ca 0, 12, .inl (fun _ => 0)))]) ++ ([(q31, .inl (ca 0, 12, .inl (fun _ => 0)))]) ++ ([(q39, .inl (ca 0, 12, .inl (fun _ => 0)))]) ++ ([(q47, .inl (ca 0, 12, .inl (fun _ => 0)))]) ++ ([(q55, .inl (ca 0, 40, .inl (fun _ => 0)))])) H := hP
  have hD : va_D A (([(h0, .inr (1, [.ref q7, .ref q15, .ref q23, .ref q31, .ref q39, .ref q47, .ref q55, .int 0, .int 0, .int 0]))]) ++ ([(q7, .inl (ca 0, 12, .inl (fun _ => 0)))]) ++ ([(q15, .inl (ca 0, 12, .inl (fun _ => 0)))]) ++ ([(q23, .inl (ca 0, 12, .inl (fun _ => 0)))]) ++ ([(q31, .inl (ca 0, 12, .inl (fun _ => 0)))]) ++ ([(q39, .inl (ca 0, 12, .inl (fun _ => 0)))]) ++ ([(q47, .inl (ca 0, 12, .inl (fun _ => 0)))]) ++ ([(q55, .inl (ca 0, 40, .inl (fun _ => 0)))])) := hD
  exact W.vret hx hb hr (fun zt ht hW => ⟨⟨(fun k => [h0, q7, q15, q23, q31, q39, q47, q55].getD k 0), rfl, rfl, by rw [ht]; exact hP, hD⟩, hS.F ht⟩) hS.2.2 dX1_init_75
def rm_X2_init : Room := { frames := 1, cells := 3, slots := 4120, locals := 12 }
theorem k_X2_init_1 : Cond.methodLink RX2 3 objectInit ∈ wsX2_init := List.mem_of_getElem? (i := 1) (by decide +kernel)
theorem k_X2_init_2 : Cond.instanceMethod objectInit ∈ wsX2_init := List.mem_of_getElem? (i := 2) (by decide +kernel)
theorem k_X2_init_3 : Cond.code objectInit ⟨#[0xb1]⟩ 1 none ∈ wsX2_init := List.mem_of_getElem? (i := 3) (by decide +kernel)
theorem k_X2_init_4 : Cond.arrayClass .int ∈ wsX2_init := List.mem_of_getElem? (i := 4) (by decide +kernel)
theorem k_X2_init_5 : Cond.fieldLink RX2 9 "IronedQuarrels$Ironing" "least" "[I" ∈ wsX2_init := List.mem_of_getElem? (i := 5) (by decide +kernel)
theorem k_X2_init_6 : Cond.fieldLink RX2 15 "IronedQuarrels$Ironing" "others" "[I" ∈ wsX2_init := List.mem_of_getElem? (i := 6) (by decide +kernel)
theorem k_X2_init_7 : Cond.fieldLink RX2 18 "IronedQuarrels$Ironing" "holders" "[I" ∈ wsX2_init := List.mem_of_getElem? (i := 7) (by decide +kernel)
theorem hi_X2_init_X2 : ∀ w ∈ wsX20, w ∈ wsX2_init := fun w h => List.mem_cons_of_mem _ (List.mem_append_right _ h)
def po_X2_init (h0 : Nat) : (Nat → Nat) → Prop := fun a => a 0 = h0
def wd_X2_init (ca : Nat → ClassId) : (Nat → Nat) → va_W := fun a => W_X2 ca a (fun _ => 0) (fun _ => 0) (fun _ => 0)
set_option maxHeartbeats 8000000 in
set_option maxRecDepth 100000 in
theorem c_X2_init (l : Launch) (D : va_G) (ca : Nat → ClassId) (h0 sz : Nat) : Met l yX2_init wsX2_init rm_X2_init (PcI eT D ca sz [.ref h0] ([(h0, .inr (2, [.null, .null, .null]))])) (va_Qv (S := Nat → Nat) (po_X2_init h0) (fun zs zt => va_P D vwCl (wd_X2_init ca zs) zt.heap ∧ va_D (va_A ([(h0, .inr (2, [.null, .null, .null]))]) sz) (wd_X2_init ca zs)) (va_A ([(h0, .inr (2, [.null, .null, .null]))]) sz)) 3 4120 (va_A ([(h0, .inr (2, [.null, .null, .null]))]) sz) := by
  refine Met.ofW (cc := cX2_init) (maxL := 1) (ret := none) (by decide) rfl ?_
  intro zp ze zs zm za zb zt zc z1 B hml hv
  obtain ⟨rfl, hsz, hP, hK, hD0, hE⟩ := hv
  have hx := B.exec
  have hb := B.bytes
  have hr := B.returns
  have hts := atoms_spec (ws := wsX2_init) B.pre
  have hown : zs.vm.findClass RX2 = some zm.cls := findClass_of_methodNamed B.named
  have hlocks := B.notSynchronized
  have hin : zt.name = "<init>" := (name_of_methodNamed B.named B.method).1
  subst hsz
  have hD := hD0.self (sz := zs.heap.size)
  generalize hAe : va_A ([(h0, .inr (2, [.null, .null, .null]))]) zs.heap.size = A at hD ⊢
  have hA : ∀ q : Nat, zs.heap.size ≤ q → A q := fun q h => by rw [← hAe]; exact Or.inr h
  have hS : va_S A zs.heap zs.heap [] := va_S.rf
  have hl := lv_entry ([.ref h0]) (n := 1) (Nat.le_of_ble_eq_true rfl)
  rw [lg_entry_eq]
  generalize (lg_sl ([.ref h0]) ++ List.replicate (1 - (lg_sl ([.ref h0])).length) Slot.unset).toArray = ls at hl ⊢
  replace hl : lv_has ls 1 [(0, .ref h0)] := hl
  show W zp l ze rm_X2_init zs zm ([.ref h0] : List Value).toArray zb zt zc zs.heap [] 0 0 (MQ zb (va_Qv (S := Nat → Nat) (po_X2_init h0) (fun zs zt => va_P D vwCl (wd_X2_init ca zs) zt.heap ∧ va_D A (wd_X2_init ca zs)) A) ([.ref h0] : List Value).toArray zs 3 4120 A) (F0 zm 0 ls [])
  refine lv_aload_n hx hb dX2_init_0 rfl (lv_at hl 0 rfl) ?_
  refine W.objInit hx hb hown (hts _ k_X2_init_1) (hts _ k_X2_init_2) (hts _ k_X2_init_3) rfl (by rw [hml]; exact hl.1) rfl dX2_init_1 (Nat.le_of_ble_eq_true rfl) (Nat.le_of_ble_eq_true rfl) ?_
  refine W.eq (g2 := F0 zm 4 ls []) rfl ?_
  refine lv_aload_n hx hb dX2_init_4 rfl (lv_at hl 0 rfl) ?_
  refine lv_sipush (v := (4096)) hx hb dX2_init_5 (by decide) ?_
  refine va_newa (atype := .int) (n := 4096) (N' := 4096) (a0 := (4096, .inl (fun _ => 0))) hx hb (hts _ k_X2_init_4) rfl hK.1 hP hD hS hA (fun _ => rfl) (by decide) (by decide) (Nat.le_of_ble_eq_true rfl) (Nat.le_of_ble_eq_true rfl) (Nat.le_of_ble_eq_true rfl) dX2_init_8 (fun q8 cA H hK1 hP hD hS => ?_)
  obtain rfl := ca_int hK1
  have hP : va_P D vwCl (([(h0, .inr (2, [.null, .null, .null]))]) ++ ([(q8, .inl (ca 0, 4096, .inl (fun _ => 0)))])) H := hP
  have hD : va_D A (([(h0, .inr (2, [.null, .null, .null]))]) ++ ([(q8, .inl (ca 0, 4096, .inl (fun _ => 0)))])) := hD
  refine W.widen (k := 1) (n := 4096) (Nat.le_of_ble_eq_true rfl) (Nat.le_of_ble_eq_true rfl) ?_
  refine va_putF (D := D) (ci := 2) (v := .ref q8) (ty := .array .int) (C := RX2) (T := TX2) (N := 3) hx hb hts hi_X2_init_X2 tyX2 tyX2_ok nmX2 hown hK.1 hP hD hS 0 rfl rfl 0 (by decide) (hts _ k_X2_init_5) (fun _ h9 => h9) rfl hin rfl (by decide +kernel) rfl rfl (Nat.le_of_ble_eq_true rfl) dX2_init_10 (fun H locs hP hD hS => ?_)
  have hP : va_P D vwCl (([(h0, .inr (2, [.ref q8, .null, .null]))]) ++ ([(q8, .inl (ca 0, 4096, .inl (fun _ => 0)))])) H := hP
  have hD : va_D A (([(h0, .inr (2, [.ref q8, .null, .null]))]) ++ ([(q8, .inl (ca 0, 4096, .inl (fun _ => 0)))])) := hD
  refine lv_aload_n hx hb dX2_init_13 rfl (lv_at hl 0 rfl) ?_
  refine lv_bipush (v := (12)) hx hb dX2_init_14 (by decide) ?_
  refine va_newa (atype := .int) (n := 12) (N' := 12) (a0 := (12, .inl (fun _ => 0))) hx hb (hts _ k_X2_init_4) rfl hK.1 hP hD hS hA (fun _ => rfl) (by decide) (by decide) (Nat.le_of_ble_eq_true rfl) (Nat.le_of_ble_eq_true rfl) (Nat.le_of_ble_eq_true rfl) dX2_init_16 (fun q16 cA H hK1 hP hD hS => ?_)
  obtain rfl := ca_int hK1
  have hP : va_P D vwCl (([(h0, .inr (2, [.ref q8, .null, .null]))]) ++ ([(q8, .inl (ca 0, 4096, .inl (fun _ => 0)))]) ++ ([(q16, .inl (ca 0, 12, .inl (fun _ => 0)))])) H := hP
  have hD : va_D A (([(h0, .inr (2, [.ref q8, .null, .null]))]) ++ ([(q8, .inl (ca 0, 4096, .inl (fun _ => 0)))]) ++ ([(q16, .inl (ca 0, 12, .inl (fun _ => 0)))])) := hD
  refine W.widen (k := 2) (n := 4108) (Nat.le_of_ble_eq_true rfl) (Nat.le_of_ble_eq_true rfl) ?_
  refine va_putF (D := D) (ci := 2) (v := .ref q16) (ty := .array .int) (C := RX2) (T := TX2) (N := 3) hx hb hts hi_X2_init_X2 tyX2 tyX2_ok nmX2 hown hK.1 hP hD hS 0 rfl rfl 1 (by decide) (hts _ k_X2_init_6) (fun _ h9 => h9) rfl hin rfl (by decide +kernel) rfl rfl (Nat.le_of_ble_eq_true rfl) dX2_init_18 (fun H locs hP hD hS => ?_)
  have hP : va_P D vwCl (([(h0, .inr (2, [.ref q8, .ref q16, .null]))]) ++ ([(q8, .inl (ca 0, 4096, .inl (fun _ => 0)))]) ++ ([(q16, .inl (ca 0, 12, .inl (fun _ => 0)))])) H := hP
  have hD : va_D A (([(h0, .inr (2, [.ref q8, .ref q16, .null]))]) ++ ([(q8, .inl (ca 0, 4096, .inl (fun _ => 0)))]) ++ ([(q16, .inl (ca 0, 12, .inl (fun _ => 0)))])) := hD
  refine lv_aload_n hx hb dX2_init_21 rfl (lv_at hl 0 rfl) ?_
  refine lv_bipush (v := (12)) hx hb dX2_init_22 (by decide) ?_
  refine va_newa (atype := .int) (n := 12) (N' := 12) (a0 := (12, .inl (fun _ => 0))) hx hb (hts _ k_X2_init_4) rfl hK.1 hP hD hS hA (fun _ => rfl) (by decide) (by decide) (Nat.le_of_ble_eq_true rfl) (Nat.le_of_ble_eq_true rfl) (Nat.le_of_ble_eq_true rfl) dX2_init_24 (fun q24 cA H hK1 hP hD hS => ?_)
  obtain rfl := ca_int hK1
  have hP : va_P D vwCl (([(h0, .inr (2, [.ref q8, .ref q16, .null]))]) ++ ([(q8, .inl (ca 0, 4096, .inl (fun _ => 0)))]) ++ ([(q16, .inl (ca 0, 12, .inl (fun _ => 0)))]) ++ ([(q24, .inl (ca 0, 12, .inl (fun _ => 0)))])) H := hP
  have hD : va_D A (([(h0, .inr (2, [.ref q8, .ref q16, .null]))]) ++ ([(q8, .inl (ca 0, 4096, .inl (fun _ => 0)))]) ++ ([(q16, .inl (ca 0, 12, .inl (fun _ => 0)))]) ++ ([(q24, .inl (ca 0, 12, .inl (fun _ => 0)))])) := hD
  refine W.widen (k := 3) (n := 4120) (Nat.le_of_ble_eq_true rfl) (Nat.le_of_ble_eq_true rfl) ?_
  refine va_putF (D := D) (ci := 2) (v := .ref q24) (ty := .array .int) (C := RX2) (T := TX2) (N := 3) hx hb hts hi_X2_init_X2 tyX2 tyX2_ok nmX2 hown hK.1 hP hD hS 0 rfl rfl 2 (by decide) (hts _ k_X2_init_7) (fun _ h9 => h9) rfl hin rfl (by decide +kernel) rfl rfl (Nat.le_of_ble_eq_true rfl) dX2_init_26 (fun H locs hP hD hS => ?_)
  have hP : va_P D vwCl (([(h0, .inr (2, [.ref q8, .ref q16, .ref q24]))]) ++ ([(q8, .inl (ca 0, 4096, .inl (fun _ => 0)))]) ++ ([(q16, .inl (ca 0, 12, .inl (fun _ => 0)))]) ++ ([(q24, .inl (ca 0, 12, .inl (fun _ => 0)))])) H := hP
  have hD : va_D A (([(h0, .inr (2, [.ref q8, .ref q16, .ref q24]))]) ++ ([(q8, .inl (ca 0, 4096, .inl (fun _ => 0)))]) ++ ([(q16, .inl (ca 0, 12, .inl (fun _ => 0)))]) ++ ([(q24, .inl (ca 0, 12, .inl (fun _ => 0)))])) := hD
  exact W.vret hx hb hr (fun zt ht hW => ⟨⟨(fun k => [h0, q8, q16, q24].getD k 0), rfl, rfl, by rw [ht]; exact hP, hD⟩, hS.F ht⟩) hS.2.2 dX2_init_29
def rm_X4_init : Room := { frames := 1, cells := 0, slots := 0, locals := 12 }
theorem k_X4_init_1 : Cond.methodLink RX4 1 objectInit ∈ wsX4_init := List.mem_of_getElem? (i := 1) (by decide +kernel)
theorem k_X4_init_2 : Cond.instanceMethod objectInit ∈ wsX4_init := List.mem_of_getElem? (i := 2) (by decide +kernel)
theorem k_X4_init_3 : Cond.code objectInit ⟨#[0xb1]⟩ 1 none ∈ wsX4_init := List.mem_of_getElem? (i := 3) (by decide +kernel)
theorem k_X4_init_4 : Cond.fieldLink RX4 7 "IronedQuarrels$Share" "top" "J" ∈ wsX4_init := List.mem_of_getElem? (i := 4) (by decide +kernel)
theorem k_X4_init_5 : Cond.fieldLink RX4 13 "IronedQuarrels$Share" "bottom" "J" ∈ wsX4_init := List.mem_of_getElem? (i := 5) (by decide +kernel)
theorem hi_X4_init_X4 : ∀ w ∈ wsX40, w ∈ wsX4_init := fun w h => List.mem_cons_of_mem _ (List.mem_append_right _ h)
def po_X4_init (h0 : Nat) : (Nat → Nat) → Prop := fun a => a 0 = h0
def wd_X4_init (ca : Nat → ClassId) : (Nat → Nat) → va_W := fun a => W_X4 ca a 0 1
set_option maxHeartbeats 8000000 in
set_option maxRecDepth 100000 in
theorem c_X4_init (l : Launch) (D : va_G) (ca : Nat → ClassId) (h0 sz : Nat) : Met l yX4_init wsX4_init rm_X4_init (PcI eT D ca sz [.ref h0] ([(h0, .inr (3, [.long 0, .long 0]))])) (va_Qv (S := Nat → Nat) (po_X4_init h0) (fun zs zt => va_P D vwCl (wd_X4_init ca zs) zt.heap ∧ va_D (va_A ([(h0, .inr (3, [.long 0, .long 0]))]) sz) (wd_X4_init ca zs)) (va_A ([(h0, .inr (3, [.long 0, .long 0]))]) sz)) 0 0 (va_A ([(h0, .inr (3, [.long 0, .long 0]))]) sz) := by
  refine Met.ofW (cc := cX4_init) (maxL := 1) (ret := none) (by decide) rfl ?_
  intro zp ze zs zm za zb zt zc z1 B hml hv
  obtain ⟨rfl, hsz, hP, hK, hD0, hE⟩ := hv
  have hx := B.exec
  have hb := B.bytes
  have hr := B.returns
  have hts := atoms_spec (ws := wsX4_init) B.pre
  have hown : zs.vm.findClass RX4 = some zm.cls := findClass_of_methodNamed B.named
  have hlocks := B.notSynchronized
  have hin : zt.name = "<init>" := (name_of_methodNamed B.named B.method).1
  subst hsz
  have hD := hD0.self (sz := zs.heap.size)
  generalize hAe : va_A ([(h0, .inr (3, [.long 0, .long 0]))]) zs.heap.size = A at hD ⊢
  have hA : ∀ q : Nat, zs.heap.size ≤ q → A q := fun q h => by rw [← hAe]; exact Or.inr h
  have hS : va_S A zs.heap zs.heap [] := va_S.rf
  have hl := lv_entry ([.ref h0]) (n := 1) (Nat.le_of_ble_eq_true rfl)
  rw [lg_entry_eq]
  generalize (lg_sl ([.ref h0]) ++ List.replicate (1 - (lg_sl ([.ref h0])).length) Slot.unset).toArray = ls at hl ⊢
  replace hl : lv_has ls 1 [(0, .ref h0)] := hl
  show W zp l ze rm_X4_init zs zm ([.ref h0] : List Value).toArray zb zt zc zs.heap [] 0 0 (MQ zb (va_Qv (S := Nat → Nat) (po_X4_init h0) (fun zs zt => va_P D vwCl (wd_X4_init ca zs) zt.heap ∧ va_D A (wd_X4_init ca zs)) A) ([.ref h0] : List Value).toArray zs 0 0 A) (F0 zm 0 ls [])
  refine lv_aload_n hx hb dX4_init_0 rfl (lv_at hl 0 rfl) ?_
  refine W.objInit hx hb hown (hts _ k_X4_init_1) (hts _ k_X4_init_2) (hts _ k_X4_init_3) rfl (by rw [hml]; exact hl.1) rfl dX4_init_1 (Nat.le_of_ble_eq_true rfl) (Nat.le_of_ble_eq_true rfl) ?_
  refine W.eq (g2 := F0 zm 4 ls []) rfl ?_
  refine lv_aload_n hx hb dX4_init_4 rfl (lv_at hl 0 rfl) ?_
  refine lv_lconst (v := (0)) hx hb dX4_init_5 (by decide) ?_
  refine va_put (D := D) (ci := 3) (v := .long 0) (ty := .long) (C := RX4) (T := TX4) (N := 2) hx hb hts hi_X4_init_X4 tyX4 tyX4_ok nmX4 hown hK.1 hP hD hS 0 rfl rfl 0 (by decide) (hts _ k_X4_init_4) (fun _ h9 => h9) rfl (by decide +kernel) rfl rfl (Nat.le_of_ble_eq_true rfl) dX4_init_6 (fun H locs hP hD hS => ?_)
  have hP : va_P D vwCl ([(h0, .inr (3, [.long 0, .long 0]))]) H := hP
  have hD : va_D A ([(h0, .inr (3, [.long 0, .long 0]))]) := hD
  refine lv_aload_n hx hb dX4_init_9 rfl (lv_at hl 0 rfl) ?_
  refine lv_lconst (v := (1)) hx hb dX4_init_10 (by decide) ?_
  refine va_put (D := D) (ci := 3) (v := .long 1) (ty := .long) (C := RX4) (T := TX4) (N := 2) hx hb hts hi_X4_init_X4 tyX4 tyX4_ok nmX4 hown hK.1 hP hD hS 0 rfl rfl 1 (by decide) (hts _ k_X4_init_5) (fun _ h9 => h9) rfl (by decide +kernel) rfl rfl (Nat.le_of_ble_eq_true rfl) dX4_init_11 (fun H locs hP hD hS => ?_)
  have hP : va_P D vwCl ([(h0, .inr (3, [.long 0, .long 1]))]) H := hP
  have hD : va_D A ([(h0, .inr (3, [.long 0, .long 1]))]) := hD
  exact W.vret hx hb hr (fun zt ht hW => ⟨⟨(fun k => [h0].getD k 0), rfl, rfl, by rw [ht]; exact hP, hD⟩, hS.F ht⟩) hS.2.2 dX4_init_14
def rm_X5_inita : Room := { frames := 1, cells := 2, slots := 246, locals := 23 }
theorem k_X5_init_1 : Cond.methodLink RX5 3 objectInit ∈ wsX5_init := List.mem_of_getElem? (i := 1) (by decide +kernel)
theorem k_X5_init_2 : Cond.instanceMethod objectInit ∈ wsX5_init := List.mem_of_getElem? (i := 2) (by decide +kernel)
theorem k_X5_init_3 : Cond.code objectInit ⟨#[0xb1]⟩ 1 none ∈ wsX5_init := List.mem_of_getElem? (i := 3) (by decide +kernel)
theorem k_X5_init_4 : Cond.fieldLink RX5 9 "IronedQuarrels$Shelf" "width" "I" ∈ wsX5_init := List.mem_of_getElem? (i := 4) (by decide +kernel)
theorem k_X5_init_5 : Cond.arrayClass .int ∈ wsX5_init := List.mem_of_getElem? (i := 5) (by decide +kernel)
theorem k_X5_init_6 : Cond.fieldLink RX5 15 "IronedQuarrels$Shelf" "sizes" "[I" ∈ wsX5_init := List.mem_of_getElem? (i := 6) (by decide +kernel)
theorem k_X5_init_7 : Cond.fieldLink RX5 19 "IronedQuarrels$Shelf" "cells" "[I" ∈ wsX5_init := List.mem_of_getElem? (i := 7) (by decide +kernel)
theorem hi_X5_init_X5 : ∀ w ∈ wsX50, w ∈ wsX5_init := fun w h => List.mem_cons_of_mem _ (List.mem_append_right _ h)
def po_X5_inita (h0 : Nat) : ((Nat → Nat) × (Nat → Int32)) → Prop := fun zs => match zs with | (a, f) => a 0 = h0 ∧ ∀ j, j < 6 → f j = -1
def wd_X5_inita (ca : Nat → ClassId) : ((Nat → Nat) × (Nat → Int32)) → va_W := fun zs => match zs with | (a, f) => W_X5 ca a 6 240 40 f (fun _ => 0)
set_option maxHeartbeats 8000000 in
set_option maxRecDepth 100000 in
theorem c_X5_inita (l : Launch) (D : va_G) (ca : Nat → ClassId) (h0 sz : Nat) : Met l yX5_init wsX5_init rm_X5_inita (PcI eT D ca sz [.ref h0, .int 6, .int 40] ([(h0, .inr (4, [.int 0, .null, .null]))])) (va_Qv (S := (Nat → Nat) × (Nat → Int32)) (po_X5_inita h0) (fun zs zt => va_P D vwCl (wd_X5_inita ca zs) zt.heap ∧ va_D (va_A ([(h0, .inr (4, [.int 0, .null, .null]))]) sz) (wd_X5_inita ca zs)) (va_A ([(h0, .inr (4, [.int 0, .null, .null]))]) sz)) 2 246 (va_A ([(h0, .inr (4, [.int 0, .null, .null]))]) sz) := by
  refine Met.ofW (cc := cX5_init) (maxL := 3) (ret := none) (by decide) rfl ?_
  intro zp ze zs zm za zb zt zc z1 B hml hv
  obtain ⟨rfl, hsz, hP, hK, hD0, hE⟩ := hv
  have hx := B.exec
  have hb := B.bytes
  have hr := B.returns
  have hts := atoms_spec (ws := wsX5_init) B.pre
  have hown : zs.vm.findClass RX5 = some zm.cls := findClass_of_methodNamed B.named
  have hlocks := B.notSynchronized
  have hin : zt.name = "<init>" := (name_of_methodNamed B.named B.method).1
  subst hsz
  have hD := hD0.self (sz := zs.heap.size)
  generalize hAe : va_A ([(h0, .inr (4, [.int 0, .null, .null]))]) zs.heap.size = A at hD ⊢
  have hA : ∀ q : Nat, zs.heap.size ≤ q → A q := fun q h => by rw [← hAe]; exact Or.inr h
  have hS : va_S A zs.heap zs.heap [] := va_S.rf
  have hl := lv_entry ([.ref h0, .int 6, .int 40]) (n := 3) (Nat.le_of_ble_eq_true rfl)
  rw [lg_entry_eq]
  generalize (lg_sl ([.ref h0, .int 6, .int 40]) ++ List.replicate (3 - (lg_sl ([.ref h0, .int 6, .int 40])).length) Slot.unset).toArray = ls at hl ⊢
  replace hl : lv_has ls 3 [(0, .ref h0), (1, .int 6), (2, .int 40)] := hl
  show W zp l ze rm_X5_inita zs zm ([.ref h0, .int 6, .int 40] : List Value).toArray zb zt zc zs.heap [] 0 0 (MQ zb (va_Qv (S := (Nat → Nat) × (Nat → Int32)) (po_X5_inita h0) (fun zs zt => va_P D vwCl (wd_X5_inita ca zs) zt.heap ∧ va_D A (wd_X5_inita ca zs)) A) ([.ref h0, .int 6, .int 40] : List Value).toArray zs 2 246 A) (F0 zm 0 ls [])
  refine lv_aload_n hx hb dX5_init_0 rfl (lv_at hl 0 rfl) ?_
  refine W.objInit hx hb hown (hts _ k_X5_init_1) (hts _ k_X5_init_2) (hts _ k_X5_init_3) rfl (by rw [hml]; exact hl.1) rfl dX5_init_1 (Nat.le_of_ble_eq_true rfl) (Nat.le_of_ble_eq_true rfl) ?_
  refine W.eq (g2 := F0 zm 4 ls []) rfl ?_
  refine lv_aload_n hx hb dX5_init_4 rfl (lv_at hl 0 rfl) ?_
  refine lv_iload_n hx hb dX5_init_5 rfl (lv_at hl 2 rfl) ?_
  refine va_putF (D := D) (ci := 4) (v := .int 40) (ty := .int) (C := RX5) (T := TX5) (N := 3) hx hb hts hi_X5_init_X5 tyX5 tyX5_ok nmX5 hown hK.1 hP hD hS 0 rfl rfl 0 (by decide) (hts _ k_X5_init_4) (fun _ h9 => h9) rfl hin rfl (by decide +kernel) rfl rfl (Nat.le_of_ble_eq_true rfl) dX5_init_6 (fun H locs hP hD hS => ?_)
  have hP : va_P D vwCl ([(h0, .inr (4, [.int 40, .null, .null]))]) H := hP
  have hD : va_D A ([(h0, .inr (4, [.int 40, .null, .null]))]) := hD
  refine lv_aload_n hx hb dX5_init_9 rfl (lv_at hl 0 rfl) ?_
  refine lv_iload_n hx hb dX5_init_10 rfl (lv_at hl 1 rfl) ?_
  refine va_newa (atype := .int) (n := 6) (N' := 6) (a0 := (6, .inl (fun _ => 0))) hx hb (hts _ k_X5_init_5) rfl hK.1 hP hD hS hA (fun _ => rfl) (by decide) (by decide) (Nat.le_of_ble_eq_true rfl) (Nat.le_of_ble_eq_true rfl) (Nat.le_of_ble_eq_true rfl) dX5_init_11 (fun q11 cA H hK1 hP hD hS => ?_)
  obtain rfl := ca_int hK1
  have hP : va_P D vwCl (([(h0, .inr (4, [.int 40, .null, .null]))]) ++ ([(q11, .inl (ca 0, 6, .inl (fun _ => 0)))])) H := hP
  have hD : va_D A (([(h0, .inr (4, [.int 40, .null, .null]))]) ++ ([(q11, .inl (ca 0, 6, .inl (fun _ => 0)))])) := hD
  refine W.widen (k := 1) (n := 6) (Nat.le_of_ble_eq_true rfl) (Nat.le_of_ble_eq_true rfl) ?_
  refine va_putF (D := D) (ci := 4) (v := .ref q11) (ty := .array .int) (C := RX5) (T := TX5) (N := 3) hx hb hts hi_X5_init_X5 tyX5 tyX5_ok nmX5 hown hK.1 hP hD hS 0 rfl rfl 1 (by decide) (hts _ k_X5_init_6) (fun _ h9 => h9) rfl hin rfl (by decide +kernel) rfl rfl (Nat.le_of_ble_eq_true rfl) dX5_init_13 (fun H locs hP hD hS => ?_)
  have hP : va_P D vwCl (([(h0, .inr (4, [.int 40, .ref q11, .null]))]) ++ ([(q11, .inl (ca 0, 6, .inl (fun _ => 0)))])) H := hP
  have hD : va_D A (([(h0, .inr (4, [.int 40, .ref q11, .null]))]) ++ ([(q11, .inl (ca 0, 6, .inl (fun _ => 0)))])) := hD
  refine lv_aload_n hx hb dX5_init_16 rfl (lv_at hl 0 rfl) ?_
  refine lv_iload_n hx hb dX5_init_17 rfl (lv_at hl 1 rfl) ?_
  refine lv_iload_n hx hb dX5_init_18 rfl (lv_at hl 2 rfl) ?_
  refine lv_imul hx hb dX5_init_19 ?_
  refine va_newa (atype := .int) (n := (6 * 40)) (N' := 240) (a0 := (240, .inl (fun _ => 0))) hx hb (hts _ k_X5_init_5) rfl hK.1 hP hD hS hA (fun _ => rfl) (by decide) (by decide) (Nat.le_of_ble_eq_true rfl) (Nat.le_of_ble_eq_true rfl) (Nat.le_of_ble_eq_true rfl) dX5_init_20 (fun q20 cA H hK1 hP hD hS => ?_)
  obtain rfl := ca_int hK1
  have hP : va_P D vwCl (([(h0, .inr (4, [.int 40, .ref q11, .null]))]) ++ ([(q11, .inl (ca 0, 6, .inl (fun _ => 0)))]) ++ ([(q20, .inl (ca 0, 240, .inl (fun _ => 0)))])) H := hP
  have hD : va_D A (([(h0, .inr (4, [.int 40, .ref q11, .null]))]) ++ ([(q11, .inl (ca 0, 6, .inl (fun _ => 0)))]) ++ ([(q20, .inl (ca 0, 240, .inl (fun _ => 0)))])) := hD
  refine W.widen (k := 2) (n := 246) (Nat.le_of_ble_eq_true rfl) (Nat.le_of_ble_eq_true rfl) ?_
  refine va_putF (D := D) (ci := 4) (v := .ref q20) (ty := .array .int) (C := RX5) (T := TX5) (N := 3) hx hb hts hi_X5_init_X5 tyX5 tyX5_ok nmX5 hown hK.1 hP hD hS 0 rfl rfl 2 (by decide) (hts _ k_X5_init_7) (fun _ h9 => h9) rfl hin rfl (by decide +kernel) rfl rfl (Nat.le_of_ble_eq_true rfl) dX5_init_22 (fun H locs hP hD hS => ?_)
  have hP : va_P D vwCl (([(h0, .inr (4, [.int 40, .ref q11, .ref q20]))]) ++ ([(q11, .inl (ca 0, 6, .inl (fun _ => 0)))]) ++ ([(q20, .inl (ca 0, 240, .inl (fun _ => 0)))])) H := hP
  have hD : va_D A (([(h0, .inr (4, [.int 40, .ref q11, .ref q20]))]) ++ ([(q11, .inl (ca 0, 6, .inl (fun _ => 0)))]) ++ ([(q20, .inl (ca 0, 240, .inl (fun _ => 0)))])) := hD
  refine lv_aload_n hx hb dX5_init_25 rfl (lv_at hl 0 rfl) ?_
  refine va_get (D := D) (ci := 4) (v := .ref q11) (C := RX5) (T := TX5) (N := 3) hx hb hts hi_X5_init_X5 hown hK.1 hP 0 rfl rfl 1 (by decide) (hts _ k_X5_init_6) (fun _ h9 => h9) rfl dX5_init_26 ?_
  refine lv_iconst (v := (-1)) hx hb dX5_init_29 (by decide) ?_
  refine wr_callv (ws1 := fun zu => ([(h0, .inr (4, [.int 40, .ref q11, .ref q20]))]) ++ ([(q11, .inl (ca 0, 6, .inl zu))]) ++ ([(q20, .inl (ca 0, 240, .inl (fun _ => 0)))])) (wr := ([(h0, .inr (4, [.int 40, .ref q11, .ref q20]))]) ++ ([(q20, .inl (ca 0, 240, .inl (fun _ => 0)))])) (n := 3) (va_runS (As := [.ref q11, .int (-1)]) (rest := []) ⟨hx, hb, hml, hown, hts⟩ (c_J7_fill_53178 l D ca q11 6 (fun _ => 0) (-1) (fun zu => ∀ j, j < 6 → zu j = -1) (hD.subM [1] (by decide) rfl) (by rw [e_fillA (by decide)]; intro j hj; exact if_pos hj)) (va_cwS 2 hts gX5_init_J7_fill_53178 rfl rfl rfl (by decide +kernel) ⟨Nat.le_of_ble_eq_true rfl, Nat.le_of_ble_eq_true rfl⟩) (PcX.preS hK (hP.subM [1] rfl)) rfl rfl hl.1 rfl (lv_room (Nat.le_of_ble_eq_true rfl)) dX5_init_30 ⟨Nat.le_of_ble_eq_true rfl, Nat.le_of_ble_eq_true rfl⟩) hP hD hS [1] [0, 2] rfl (fun _ => rfl) rfl (fun _ => rfl) (fun _ => rfl) (fun _ => rfl) (by decide +kernel) (by decide +kernel) (fun zu H locs hw hP hD hS => ?_)
  have hP : va_P D vwCl (([(h0, .inr (4, [.int 40, .ref q11, .ref q20]))]) ++ ([(q11, .inl (ca 0, 6, .inl zu))]) ++ ([(q20, .inl (ca 0, 240, .inl (fun _ => 0)))])) H := hP
  have hD : va_D A (([(h0, .inr (4, [.int 40, .ref q11, .ref q20]))]) ++ ([(q11, .inl (ca 0, 6, .inl zu))]) ++ ([(q20, .inl (ca 0, 240, .inl (fun _ => 0)))])) := hD
  exact W.vret hx hb hr (fun zt ht hW => ⟨⟨((fun k => [h0, q11, q20].getD k 0), zu), rfl, ⟨rfl, hw⟩, by rw [ht]; exact hP, hD⟩, hS.F ht⟩) hS.2.2 dX5_init_33
def rm_X5_initb : Room := { frames := 1, cells := 2, slots := 324, locals := 23 }
def po_X5_initb (h0 : Nat) : ((Nat → Nat) × (Nat → Int32)) → Prop := fun zs => match zs with | (a, f) => a 0 = h0 ∧ ∀ j, j < 4 → f j = -1
def wd_X5_initb (ca : Nat → ClassId) : ((Nat → Nat) × (Nat → Int32)) → va_W := fun zs => match zs with | (a, f) => W_X5 ca a 4 320 80 f (fun _ => 0)
set_option maxHeartbeats 8000000 in
set_option maxRecDepth 100000 in
theorem c_X5_initb (l : Launch) (D : va_G) (ca : Nat → ClassId) (h0 sz : Nat) : Met l yX5_init wsX5_init rm_X5_initb (PcI eT D ca sz [.ref h0, .int 4, .int 80] ([(h0, .inr (4, [.int 0, .null, .null]))])) (va_Qv (S := (Nat → Nat) × (Nat → Int32)) (po_X5_initb h0) (fun zs zt => va_P D vwCl (wd_X5_initb ca zs) zt.heap ∧ va_D (va_A ([(h0, .inr (4, [.int 0, .null, .null]))]) sz) (wd_X5_initb ca zs)) (va_A ([(h0, .inr (4, [.int 0, .null, .null]))]) sz)) 2 324 (va_A ([(h0, .inr (4, [.int 0, .null, .null]))]) sz) := by
  refine Met.ofW (cc := cX5_init) (maxL := 3) (ret := none) (by decide) rfl ?_
  intro zp ze zs zm za zb zt zc z1 B hml hv
  obtain ⟨rfl, hsz, hP, hK, hD0, hE⟩ := hv
  have hx := B.exec
  have hb := B.bytes
  have hr := B.returns
  have hts := atoms_spec (ws := wsX5_init) B.pre
  have hown : zs.vm.findClass RX5 = some zm.cls := findClass_of_methodNamed B.named
  have hlocks := B.notSynchronized
  have hin : zt.name = "<init>" := (name_of_methodNamed B.named B.method).1
  subst hsz
  have hD := hD0.self (sz := zs.heap.size)
  generalize hAe : va_A ([(h0, .inr (4, [.int 0, .null, .null]))]) zs.heap.size = A at hD ⊢
  have hA : ∀ q : Nat, zs.heap.size ≤ q → A q := fun q h => by rw [← hAe]; exact Or.inr h
  have hS : va_S A zs.heap zs.heap [] := va_S.rf
  have hl := lv_entry ([.ref h0, .int 4, .int 80]) (n := 3) (Nat.le_of_ble_eq_true rfl)
  rw [lg_entry_eq]
  generalize (lg_sl ([.ref h0, .int 4, .int 80]) ++ List.replicate (3 - (lg_sl ([.ref h0, .int 4, .int 80])).length) Slot.unset).toArray = ls at hl ⊢
  replace hl : lv_has ls 3 [(0, .ref h0), (1, .int 4), (2, .int 80)] := hl
  show W zp l ze rm_X5_initb zs zm ([.ref h0, .int 4, .int 80] : List Value).toArray zb zt zc zs.heap [] 0 0 (MQ zb (va_Qv (S := (Nat → Nat) × (Nat → Int32)) (po_X5_initb h0) (fun zs zt => va_P D vwCl (wd_X5_initb ca zs) zt.heap ∧ va_D A (wd_X5_initb ca zs)) A) ([.ref h0, .int 4, .int 80] : List Value).toArray zs 2 324 A) (F0 zm 0 ls [])
  refine lv_aload_n hx hb dX5_init_0 rfl (lv_at hl 0 rfl) ?_
  refine W.objInit hx hb hown (hts _ k_X5_init_1) (hts _ k_X5_init_2) (hts _ k_X5_init_3) rfl (by rw [hml]; exact hl.1) rfl dX5_init_1 (Nat.le_of_ble_eq_true rfl) (Nat.le_of_ble_eq_true rfl) ?_
  refine W.eq (g2 := F0 zm 4 ls []) rfl ?_
  refine lv_aload_n hx hb dX5_init_4 rfl (lv_at hl 0 rfl) ?_
  refine lv_iload_n hx hb dX5_init_5 rfl (lv_at hl 2 rfl) ?_
  refine va_putF (D := D) (ci := 4) (v := .int 80) (ty := .int) (C := RX5) (T := TX5) (N := 3) hx hb hts hi_X5_init_X5 tyX5 tyX5_ok nmX5 hown hK.1 hP hD hS 0 rfl rfl 0 (by decide) (hts _ k_X5_init_4) (fun _ h9 => h9) rfl hin rfl (by decide +kernel) rfl rfl (Nat.le_of_ble_eq_true rfl) dX5_init_6 (fun H locs hP hD hS => ?_)
  have hP : va_P D vwCl ([(h0, .inr (4, [.int 80, .null, .null]))]) H := hP
  have hD : va_D A ([(h0, .inr (4, [.int 80, .null, .null]))]) := hD
  refine lv_aload_n hx hb dX5_init_9 rfl (lv_at hl 0 rfl) ?_
  refine lv_iload_n hx hb dX5_init_10 rfl (lv_at hl 1 rfl) ?_
  refine va_newa (atype := .int) (n := 4) (N' := 4) (a0 := (4, .inl (fun _ => 0))) hx hb (hts _ k_X5_init_5) rfl hK.1 hP hD hS hA (fun _ => rfl) (by decide) (by decide) (Nat.le_of_ble_eq_true rfl) (Nat.le_of_ble_eq_true rfl) (Nat.le_of_ble_eq_true rfl) dX5_init_11 (fun q11 cA H hK1 hP hD hS => ?_)
  obtain rfl := ca_int hK1
  have hP : va_P D vwCl (([(h0, .inr (4, [.int 80, .null, .null]))]) ++ ([(q11, .inl (ca 0, 4, .inl (fun _ => 0)))])) H := hP
  have hD : va_D A (([(h0, .inr (4, [.int 80, .null, .null]))]) ++ ([(q11, .inl (ca 0, 4, .inl (fun _ => 0)))])) := hD
  refine W.widen (k := 1) (n := 4) (Nat.le_of_ble_eq_true rfl) (Nat.le_of_ble_eq_true rfl) ?_
  refine va_putF (D := D) (ci := 4) (v := .ref q11) (ty := .array .int) (C := RX5) (T := TX5) (N := 3) hx hb hts hi_X5_init_X5 tyX5 tyX5_ok nmX5 hown hK.1 hP hD hS 0 rfl rfl 1 (by decide) (hts _ k_X5_init_6) (fun _ h9 => h9) rfl hin rfl (by decide +kernel) rfl rfl (Nat.le_of_ble_eq_true rfl) dX5_init_13 (fun H locs hP hD hS => ?_)
  have hP : va_P D vwCl (([(h0, .inr (4, [.int 80, .ref q11, .null]))]) ++ ([(q11, .inl (ca 0, 4, .inl (fun _ => 0)))])) H := hP
  have hD : va_D A (([(h0, .inr (4, [.int 80, .ref q11, .null]))]) ++ ([(q11, .inl (ca 0, 4, .inl (fun _ => 0)))])) := hD
  refine lv_aload_n hx hb dX5_init_16 rfl (lv_at hl 0 rfl) ?_
  refine lv_iload_n hx hb dX5_init_17 rfl (lv_at hl 1 rfl) ?_
  refine lv_iload_n hx hb dX5_init_18 rfl (lv_at hl 2 rfl) ?_
  refine lv_imul hx hb dX5_init_19 ?_
  refine va_newa (atype := .int) (n := (4 * 80)) (N' := 320) (a0 := (320, .inl (fun _ => 0))) hx hb (hts _ k_X5_init_5) rfl hK.1 hP hD hS hA (fun _ => rfl) (by decide) (by decide) (Nat.le_of_ble_eq_true rfl) (Nat.le_of_ble_eq_true rfl) (Nat.le_of_ble_eq_true rfl) dX5_init_20 (fun q20 cA H hK1 hP hD hS => ?_)
  obtain rfl := ca_int hK1
  have hP : va_P D vwCl (([(h0, .inr (4, [.int 80, .ref q11, .null]))]) ++ ([(q11, .inl (ca 0, 4, .inl (fun _ => 0)))]) ++ ([(q20, .inl (ca 0, 320, .inl (fun _ => 0)))])) H := hP
  have hD : va_D A (([(h0, .inr (4, [.int 80, .ref q11, .null]))]) ++ ([(q11, .inl (ca 0, 4, .inl (fun _ => 0)))]) ++ ([(q20, .inl (ca 0, 320, .inl (fun _ => 0)))])) := hD
  refine W.widen (k := 2) (n := 324) (Nat.le_of_ble_eq_true rfl) (Nat.le_of_ble_eq_true rfl) ?_
  refine va_putF (D := D) (ci := 4) (v := .ref q20) (ty := .array .int) (C := RX5) (T := TX5) (N := 3) hx hb hts hi_X5_init_X5 tyX5 tyX5_ok nmX5 hown hK.1 hP hD hS 0 rfl rfl 2 (by decide) (hts _ k_X5_init_7) (fun _ h9 => h9) rfl hin rfl (by decide +kernel) rfl rfl (Nat.le_of_ble_eq_true rfl) dX5_init_22 (fun H locs hP hD hS => ?_)
  have hP : va_P D vwCl (([(h0, .inr (4, [.int 80, .ref q11, .ref q20]))]) ++ ([(q11, .inl (ca 0, 4, .inl (fun _ => 0)))]) ++ ([(q20, .inl (ca 0, 320, .inl (fun _ => 0)))])) H := hP
  have hD : va_D A (([(h0, .inr (4, [.int 80, .ref q11, .ref q20]))]) ++ ([(q11, .inl (ca 0, 4, .inl (fun _ => 0)))]) ++ ([(q20, .inl (ca 0, 320, .inl (fun _ => 0)))])) := hD
  refine lv_aload_n hx hb dX5_init_25 rfl (lv_at hl 0 rfl) ?_
  refine va_get (D := D) (ci := 4) (v := .ref q11) (C := RX5) (T := TX5) (N := 3) hx hb hts hi_X5_init_X5 hown hK.1 hP 0 rfl rfl 1 (by decide) (hts _ k_X5_init_6) (fun _ h9 => h9) rfl dX5_init_26 ?_
  refine lv_iconst (v := (-1)) hx hb dX5_init_29 (by decide) ?_
  refine wr_callv (ws1 := fun zu => ([(h0, .inr (4, [.int 80, .ref q11, .ref q20]))]) ++ ([(q11, .inl (ca 0, 4, .inl zu))]) ++ ([(q20, .inl (ca 0, 320, .inl (fun _ => 0)))])) (wr := ([(h0, .inr (4, [.int 80, .ref q11, .ref q20]))]) ++ ([(q20, .inl (ca 0, 320, .inl (fun _ => 0)))])) (n := 3) (va_runS (As := [.ref q11, .int (-1)]) (rest := []) ⟨hx, hb, hml, hown, hts⟩ (c_J7_fill_53178 l D ca q11 4 (fun _ => 0) (-1) (fun zu => ∀ j, j < 4 → zu j = -1) (hD.subM [1] (by decide) rfl) (by rw [e_fillA (by decide)]; intro j hj; exact if_pos hj)) (va_cwS 2 hts gX5_init_J7_fill_53178 rfl rfl rfl (by decide +kernel) ⟨Nat.le_of_ble_eq_true rfl, Nat.le_of_ble_eq_true rfl⟩) (PcX.preS hK (hP.subM [1] rfl)) rfl rfl hl.1 rfl (lv_room (Nat.le_of_ble_eq_true rfl)) dX5_init_30 ⟨Nat.le_of_ble_eq_true rfl, Nat.le_of_ble_eq_true rfl⟩) hP hD hS [1] [0, 2] rfl (fun _ => rfl) rfl (fun _ => rfl) (fun _ => rfl) (fun _ => rfl) (by decide +kernel) (by decide +kernel) (fun zu H locs hw hP hD hS => ?_)
  have hP : va_P D vwCl (([(h0, .inr (4, [.int 80, .ref q11, .ref q20]))]) ++ ([(q11, .inl (ca 0, 4, .inl zu))]) ++ ([(q20, .inl (ca 0, 320, .inl (fun _ => 0)))])) H := hP
  have hD : va_D A (([(h0, .inr (4, [.int 80, .ref q11, .ref q20]))]) ++ ([(q11, .inl (ca 0, 4, .inl zu))]) ++ ([(q20, .inl (ca 0, 320, .inl (fun _ => 0)))])) := hD
  exact W.vret hx hb hr (fun zt ht hW => ⟨⟨((fun k => [h0, q11, q20].getD k 0), zu), rfl, ⟨rfl, hw⟩, by rw [ht]; exact hP, hD⟩, hS.F ht⟩) hS.2.2 dX5_init_33
def rm_X6_init : Room := { frames := 1, cells := 1, slots := 6, locals := 12 }
theorem k_X6_init_1 : Cond.methodLink RX6 3 objectInit ∈ wsX6_init := List.mem_of_getElem? (i := 1) (by decide +kernel)
theorem k_X6_init_2 : Cond.instanceMethod objectInit ∈ wsX6_init := List.mem_of_getElem? (i := 2) (by decide +kernel)
theorem k_X6_init_3 : Cond.code objectInit ⟨#[0xb1]⟩ 1 none ∈ wsX6_init := List.mem_of_getElem? (i := 3) (by decide +kernel)
theorem k_X6_init_4 : Cond.arrayClass .int ∈ wsX6_init := List.mem_of_getElem? (i := 4) (by decide +kernel)
theorem k_X6_init_5 : Cond.fieldLink RX6 9 "IronedQuarrels$Tally" "often" "[I" ∈ wsX6_init := List.mem_of_getElem? (i := 5) (by decide +kernel)
theorem k_X6_init_6 : Cond.fieldLink RX6 15 "IronedQuarrels$Tally" "latest" "I" ∈ wsX6_init := List.mem_of_getElem? (i := 6) (by decide +kernel)
theorem hi_X6_init_X6 : ∀ w ∈ wsX60, w ∈ wsX6_init := fun w h => List.mem_cons_of_mem _ (List.mem_append_right _ h)
def po_X6_init (h0 : Nat) : (Nat → Nat) → Prop := fun a => a 0 = h0
def wd_X6_init (ca : Nat → ClassId) : (Nat → Nat) → va_W := fun a => W_X6 ca a (fun _ => 0) 0
set_option maxHeartbeats 8000000 in
set_option maxRecDepth 100000 in
theorem c_X6_init (l : Launch) (D : va_G) (ca : Nat → ClassId) (h0 sz : Nat) : Met l yX6_init wsX6_init rm_X6_init (PcI eT D ca sz [.ref h0] ([(h0, .inr (5, [.null, .int 0]))])) (va_Qv (S := Nat → Nat) (po_X6_init h0) (fun zs zt => va_P D vwCl (wd_X6_init ca zs) zt.heap ∧ va_D (va_A ([(h0, .inr (5, [.null, .int 0]))]) sz) (wd_X6_init ca zs)) (va_A ([(h0, .inr (5, [.null, .int 0]))]) sz)) 1 6 (va_A ([(h0, .inr (5, [.null, .int 0]))]) sz) := by
  refine Met.ofW (cc := cX6_init) (maxL := 1) (ret := none) (by decide) rfl ?_
  intro zp ze zs zm za zb zt zc z1 B hml hv
  obtain ⟨rfl, hsz, hP, hK, hD0, hE⟩ := hv
  have hx := B.exec
  have hb := B.bytes
  have hr := B.returns
  have hts := atoms_spec (ws := wsX6_init) B.pre
  have hown : zs.vm.findClass RX6 = some zm.cls := findClass_of_methodNamed B.named
  have hlocks := B.notSynchronized
  have hin : zt.name = "<init>" := (name_of_methodNamed B.named B.method).1
  subst hsz
  have hD := hD0.self (sz := zs.heap.size)
  generalize hAe : va_A ([(h0, .inr (5, [.null, .int 0]))]) zs.heap.size = A at hD ⊢
  have hA : ∀ q : Nat, zs.heap.size ≤ q → A q := fun q h => by rw [← hAe]; exact Or.inr h
  have hS : va_S A zs.heap zs.heap [] := va_S.rf
  have hl := lv_entry ([.ref h0]) (n := 1) (Nat.le_of_ble_eq_true rfl)
  rw [lg_entry_eq]
  generalize (lg_sl ([.ref h0]) ++ List.replicate (1 - (lg_sl ([.ref h0])).length) Slot.unset).toArray = ls at hl ⊢
  replace hl : lv_has ls 1 [(0, .ref h0)] := hl
  show W zp l ze rm_X6_init zs zm ([.ref h0] : List Value).toArray zb zt zc zs.heap [] 0 0 (MQ zb (va_Qv (S := Nat → Nat) (po_X6_init h0) (fun zs zt => va_P D vwCl (wd_X6_init ca zs) zt.heap ∧ va_D A (wd_X6_init ca zs)) A) ([.ref h0] : List Value).toArray zs 1 6 A) (F0 zm 0 ls [])
  refine lv_aload_n hx hb dX6_init_0 rfl (lv_at hl 0 rfl) ?_
  refine W.objInit hx hb hown (hts _ k_X6_init_1) (hts _ k_X6_init_2) (hts _ k_X6_init_3) rfl (by rw [hml]; exact hl.1) rfl dX6_init_1 (Nat.le_of_ble_eq_true rfl) (Nat.le_of_ble_eq_true rfl) ?_
  refine W.eq (g2 := F0 zm 4 ls []) rfl ?_
  refine lv_aload_n hx hb dX6_init_4 rfl (lv_at hl 0 rfl) ?_
  refine lv_bipush (v := (6)) hx hb dX6_init_5 (by decide) ?_
  refine va_newa (atype := .int) (n := 6) (N' := 6) (a0 := (6, .inl (fun _ => 0))) hx hb (hts _ k_X6_init_4) rfl hK.1 hP hD hS hA (fun _ => rfl) (by decide) (by decide) (Nat.le_of_ble_eq_true rfl) (Nat.le_of_ble_eq_true rfl) (Nat.le_of_ble_eq_true rfl) dX6_init_7 (fun q7 cA H hK1 hP hD hS => ?_)
  obtain rfl := ca_int hK1
  have hP : va_P D vwCl (([(h0, .inr (5, [.null, .int 0]))]) ++ ([(q7, .inl (ca 0, 6, .inl (fun _ => 0)))])) H := hP
  have hD : va_D A (([(h0, .inr (5, [.null, .int 0]))]) ++ ([(q7, .inl (ca 0, 6, .inl (fun _ => 0)))])) := hD
  refine W.widen (k := 1) (n := 6) (Nat.le_of_ble_eq_true rfl) (Nat.le_of_ble_eq_true rfl) ?_
  refine va_putF (D := D) (ci := 5) (v := .ref q7) (ty := .array .int) (C := RX6) (T := TX6) (N := 2) hx hb hts hi_X6_init_X6 tyX6 tyX6_ok nmX6 hown hK.1 hP hD hS 0 rfl rfl 0 (by decide) (hts _ k_X6_init_5) (fun _ h9 => h9) rfl hin rfl (by decide +kernel) rfl rfl (Nat.le_of_ble_eq_true rfl) dX6_init_9 (fun H locs hP hD hS => ?_)
  have hP : va_P D vwCl (([(h0, .inr (5, [.ref q7, .int 0]))]) ++ ([(q7, .inl (ca 0, 6, .inl (fun _ => 0)))])) H := hP
  have hD : va_D A (([(h0, .inr (5, [.ref q7, .int 0]))]) ++ ([(q7, .inl (ca 0, 6, .inl (fun _ => 0)))])) := hD
  refine lv_aload_n hx hb dX6_init_12 rfl (lv_at hl 0 rfl) ?_
  refine lv_iconst (v := (0)) hx hb dX6_init_13 (by decide) ?_
  refine va_put (D := D) (ci := 5) (v := .int 0) (ty := .int) (C := RX6) (T := TX6) (N := 2) hx hb hts hi_X6_init_X6 tyX6 tyX6_ok nmX6 hown hK.1 hP hD hS 0 rfl rfl 1 (by decide) (hts _ k_X6_init_6) (fun _ h9 => h9) rfl (by decide +kernel) rfl rfl (Nat.le_of_ble_eq_true rfl) dX6_init_14 (fun H locs hP hD hS => ?_)
  have hP : va_P D vwCl (([(h0, .inr (5, [.ref q7, .int 0]))]) ++ ([(q7, .inl (ca 0, 6, .inl (fun _ => 0)))])) H := hP
  have hD : va_D A (([(h0, .inr (5, [.ref q7, .int 0]))]) ++ ([(q7, .inl (ca 0, 6, .inl (fun _ => 0)))])) := hD
  exact W.vret hx hb hr (fun zt ht hW => ⟨⟨(fun k => [h0, q7].getD k 0), rfl, rfl, by rw [ht]; exact hP, hD⟩, hS.F ht⟩) hS.2.2 dX6_init_17
def rm_X7_init : Room := { frames := 2, cells := 32, slots := 4963, locals := 45 }
theorem k_X7_init_1 : Cond.methodLink RX7 1 objectInit ∈ wsX7_init := List.mem_of_getElem? (i := 1) (by decide +kernel)
theorem k_X7_init_2 : Cond.instanceMethod objectInit ∈ wsX7_init := List.mem_of_getElem? (i := 2) (by decide +kernel)
theorem k_X7_init_3 : Cond.code objectInit ⟨#[0xb1]⟩ 1 none ∈ wsX7_init := List.mem_of_getElem? (i := 3) (by decide +kernel)
theorem k_X7_init_4 : Cond.classLink RX7 7 RX5 ∈ wsX7_init := List.mem_of_getElem? (i := 4) (by decide +kernel)
theorem k_X7_init_5 : Cond.instantiable RX5 3 ∈ wsX7_init := List.mem_of_getElem? (i := 5) (by decide +kernel)
theorem k_X7_init_6 : Cond.initialized RX5 ∈ wsX7_init := List.mem_of_getElem? (i := 6) (by decide +kernel)
theorem k_X7_init_7 : Cond.fieldLink RX7 14 "IronedQuarrels" "rows" "LIronedQuarrels$Shelf;" ∈ wsX7_init := List.mem_of_getElem? (i := 7) (by decide +kernel)
theorem k_X7_init_8 : Cond.fieldLink RX7 18 "IronedQuarrels" "texts" "LIronedQuarrels$Shelf;" ∈ wsX7_init := List.mem_of_getElem? (i := 8) (by decide +kernel)
theorem k_X7_init_9 : Cond.classLink RX7 21 RX1 ∈ wsX7_init := List.mem_of_getElem? (i := 9) (by decide +kernel)
theorem k_X7_init_10 : Cond.instantiable RX1 10 ∈ wsX7_init := List.mem_of_getElem? (i := 10) (by decide +kernel)
theorem k_X7_init_11 : Cond.initialized RX1 ∈ wsX7_init := List.mem_of_getElem? (i := 11) (by decide +kernel)
theorem k_X7_init_12 : Cond.fieldLink RX7 24 "IronedQuarrels" "heap" "LIronedQuarrels$Heap;" ∈ wsX7_init := List.mem_of_getElem? (i := 12) (by decide +kernel)
theorem k_X7_init_13 : Cond.fieldLink RX7 28 "IronedQuarrels" "draft" "LIronedQuarrels$Heap;" ∈ wsX7_init := List.mem_of_getElem? (i := 13) (by decide +kernel)
theorem k_X7_init_14 : Cond.fieldLink RX7 31 "IronedQuarrels" "kept" "[LIronedQuarrels$Heap;" ∈ wsX7_init := List.mem_of_getElem? (i := 14) (by decide +kernel)
theorem k_X7_init_15 : Cond.classLink RX7 35 RX2 ∈ wsX7_init := List.mem_of_getElem? (i := 15) (by decide +kernel)
theorem k_X7_init_16 : Cond.instantiable RX2 3 ∈ wsX7_init := List.mem_of_getElem? (i := 16) (by decide +kernel)
theorem k_X7_init_17 : Cond.initialized RX2 ∈ wsX7_init := List.mem_of_getElem? (i := 17) (by decide +kernel)
theorem k_X7_init_18 : Cond.fieldLink RX7 38 "IronedQuarrels" "ironing" "LIronedQuarrels$Ironing;" ∈ wsX7_init := List.mem_of_getElem? (i := 18) (by decide +kernel)
theorem k_X7_init_19 : Cond.classLink RX7 42 RX0 ∈ wsX7_init := List.mem_of_getElem? (i := 19) (by decide +kernel)
theorem k_X7_init_20 : Cond.instantiable RX0 1 ∈ wsX7_init := List.mem_of_getElem? (i := 20) (by decide +kernel)
theorem k_X7_init_21 : Cond.initialized RX0 ∈ wsX7_init := List.mem_of_getElem? (i := 21) (by decide +kernel)
theorem k_X7_init_22 : Cond.fieldLink RX7 45 "IronedQuarrels" "company" "LIronedQuarrels$Company;" ∈ wsX7_init := List.mem_of_getElem? (i := 22) (by decide +kernel)
theorem k_X7_init_23 : Cond.classLink RX7 49 RX4 ∈ wsX7_init := List.mem_of_getElem? (i := 23) (by decide +kernel)
theorem k_X7_init_24 : Cond.instantiable RX4 2 ∈ wsX7_init := List.mem_of_getElem? (i := 24) (by decide +kernel)
theorem k_X7_init_25 : Cond.initialized RX4 ∈ wsX7_init := List.mem_of_getElem? (i := 25) (by decide +kernel)
theorem k_X7_init_26 : Cond.fieldLink RX7 52 "IronedQuarrels" "share" "LIronedQuarrels$Share;" ∈ wsX7_init := List.mem_of_getElem? (i := 26) (by decide +kernel)
theorem k_X7_init_27 : Cond.classLink RX7 56 RX6 ∈ wsX7_init := List.mem_of_getElem? (i := 27) (by decide +kernel)
theorem k_X7_init_28 : Cond.instantiable RX6 2 ∈ wsX7_init := List.mem_of_getElem? (i := 28) (by decide +kernel)
theorem k_X7_init_29 : Cond.initialized RX6 ∈ wsX7_init := List.mem_of_getElem? (i := 29) (by decide +kernel)
theorem k_X7_init_30 : Cond.fieldLink RX7 59 "IronedQuarrels" "tally" "LIronedQuarrels$Tally;" ∈ wsX7_init := List.mem_of_getElem? (i := 30) (by decide +kernel)
theorem k_X7_init_31 : Cond.fieldLink RX7 63 "IronedQuarrels" "lastTold" "I" ∈ wsX7_init := List.mem_of_getElem? (i := 31) (by decide +kernel)
theorem k_X7_init_32 : Cond.methodLink RX7 11 yX5_init ∈ wsX7_init := List.mem_of_getElem? (i := 32) (by decide +kernel)
theorem k_X7_init_33 : Cond.instanceMethod yX5_init ∈ wsX7_init := List.mem_of_getElem? (i := 33) (by decide +kernel)
theorem k_X7_init_44 : Cond.instanceMethod yX1_init ∈ wsX7_init := List.mem_of_getElem? (i := 44) (by decide +kernel)
theorem k_X7_init_57 : Cond.instanceMethod yX2_init ∈ wsX7_init := List.mem_of_getElem? (i := 57) (by decide +kernel)
theorem k_X7_init_63 : Cond.instanceMethod yX0_init ∈ wsX7_init := List.mem_of_getElem? (i := 63) (by decide +kernel)
theorem k_X7_init_67 : Cond.instanceMethod yX4_init ∈ wsX7_init := List.mem_of_getElem? (i := 67) (by decide +kernel)
theorem k_X7_init_72 : Cond.instanceMethod yX6_init ∈ wsX7_init := List.mem_of_getElem? (i := 72) (by decide +kernel)
theorem hi_X7_init_X0 : ∀ w ∈ wsX00, w ∈ wsX7_init := fun w h => List.mem_cons_of_mem _ (List.mem_append_left _ (List.mem_append_left _ (List.mem_append_right _ h)))
theorem hi_X7_init_X1 : ∀ w ∈ wsX10, w ∈ wsX7_init := fun w h => List.mem_cons_of_mem _ (List.mem_append_left _ (List.mem_append_left _ (List.mem_append_left _ (List.mem_append_left _ (List.mem_append_right _ h)))))
theorem hi_X7_init_X2 : ∀ w ∈ wsX20, w ∈ wsX7_init := fun w h => List.mem_cons_of_mem _ (List.mem_append_left _ (List.mem_append_left _ (List.mem_append_left _ (List.mem_append_right _ h))))
theorem hi_X7_init_X4 : ∀ w ∈ wsX40, w ∈ wsX7_init := fun w h => List.mem_cons_of_mem _ (List.mem_append_left _ (List.mem_append_right _ h))
theorem hi_X7_init_X5 : ∀ w ∈ wsX50, w ∈ wsX7_init := fun w h => List.mem_cons_of_mem _ (List.mem_append_left _ (List.mem_append_left _ (List.mem_append_left _ (List.mem_append_left _ (List.mem_append_left _ (List.mem_append_left _ (List.mem_append_right _ h)))))))
theorem hi_X7_init_X6 : ∀ w ∈ wsX60, w ∈ wsX7_init := fun w h => List.mem_cons_of_mem _ (List.mem_append_right _ h)
theorem hi_X7_init_X7 : ∀ w ∈ wsX70, w ∈ wsX7_init := fun w h => List.mem_cons_of_mem _ (List.mem_append_left _ (List.mem_append_left _ (List.mem_append_left _ (List.mem_append_left _ (List.mem_append_left _ (List.mem_append_right _ h))))))
def po_X7_init (h0 : Nat) : ((Nat → Nat) × (Nat → Nat) × (Nat → Nat) × (Nat → Nat) × (Nat → Nat) × Nat × (Nat → Nat) × (Nat → Nat) × (Nat → Nat) × (Nat → Nat) × (Nat → Int32) × (Nat → Int32)) → Prop := fun zs => match zs with | (a, aR, aT, aH, aD, aK, aI, aC, aS, aY, f, g) => a 0 = h0 ∧ (∀ j, j < 6 → f j = -1) ∧ (∀ j, j < 4 → g j = -1)
def wd_X7_init (ca : Nat → ClassId) : ((Nat → Nat) × (Nat → Nat) × (Nat → Nat) × (Nat → Nat) × (Nat → Nat) × Nat × (Nat → Nat) × (Nat → Nat) × (Nat → Nat) × (Nat → Nat) × (Nat → Int32) × (Nat → Int32)) → va_W := fun zs => match zs with | (a, aR, aT, aH, aD, aK, aI, aC, aS, aY, f, g) => (W_X7 a aR aT aH aD aK aI aC aS aY 0) ++ (W_X5 ca aR 6 240 40 f (fun _ => 0)) ++ (W_X5 ca aT 4 320 80 g (fun _ => 0)) ++ (W_X1 ca aH (fun _ => 0) (fun _ => 0) (fun _ => 0) (fun _ => 0) (fun _ => 0) (fun _ => 0) (fun _ => 0) 0 0 0) ++ (W_X1 ca aD (fun _ => 0) (fun _ => 0) (fun _ => 0) (fun _ => 0) (fun _ => 0) (fun _ => 0) (fun _ => 0) 0 0 0) ++ (W_K ca aK (fun _ => none)) ++ (W_X2 ca aI (fun _ => 0) (fun _ => 0) (fun _ => 0)) ++ (W_X0 ca aC (fun _ => 0)) ++ (W_X4 ca aS 0 1) ++ (W_X6 ca aY (fun _ => 0) 0)
set_option maxHeartbeats 8000000 in
set_option maxRecDepth 100000 in
theorem c_X7_init (l : Launch) (D : va_G) (ca : Nat → ClassId) (h0 sz : Nat) : Met l yX7_init wsX7_init rm_X7_init (PcI eH D ca sz [.ref h0] ([(h0, .inr (6, [.null, .null, .null, .null, .null, .null, .null, .null, .null, .int 0]))])) (va_Qv (S := (Nat → Nat) × (Nat → Nat) × (Nat → Nat) × (Nat → Nat) × (Nat → Nat) × Nat × (Nat → Nat) × (Nat → Nat) × (Nat → Nat) × (Nat → Nat) × (Nat → Int32) × (Nat → Int32)) (po_X7_init h0) (fun zs zt => va_P D vwCl (wd_X7_init ca zs) zt.heap ∧ va_D (va_A ([(h0, .inr (6, [.null, .null, .null, .null, .null, .null, .null, .null, .null, .int 0]))]) sz) (wd_X7_init ca zs)) (va_A ([(h0, .inr (6, [.null, .null, .null, .null, .null, .null, .null, .null, .null, .int 0]))]) sz)) 32 4963 (va_A ([(h0, .inr (6, [.null, .null, .null, .null, .null, .null, .null, .null, .null, .int 0]))]) sz) := by
  refine Met.ofW (cc := cX7_init) (maxL := 1) (ret := none) (by decide) rfl ?_
  intro zp ze zs zm za zb zt zc z1 B hml hv
  obtain ⟨rfl, hsz, hP, hK, hD0, hE⟩ := hv
  have hx := B.exec
  have hb := B.bytes
  have hr := B.returns
  have hts := atoms_spec (ws := wsX7_init) B.pre
  have hown : zs.vm.findClass RX7 = some zm.cls := findClass_of_methodNamed B.named
  have hlocks := B.notSynchronized
  have hin : zt.name = "<init>" := (name_of_methodNamed B.named B.method).1
  subst hsz
  have hD := hD0.self (sz := zs.heap.size)
  generalize hAe : va_A ([(h0, .inr (6, [.null, .null, .null, .null, .null, .null, .null, .null, .null, .int 0]))]) zs.heap.size = A at hD ⊢
  have hA : ∀ q : Nat, zs.heap.size ≤ q → A q := fun q h => by rw [← hAe]; exact Or.inr h
  have hS : va_S A zs.heap zs.heap [] := va_S.rf
  have hl := lv_entry ([.ref h0]) (n := 1) (Nat.le_of_ble_eq_true rfl)
  rw [lg_entry_eq]
  generalize (lg_sl ([.ref h0]) ++ List.replicate (1 - (lg_sl ([.ref h0])).length) Slot.unset).toArray = ls at hl ⊢
  replace hl : lv_has ls 1 [(0, .ref h0)] := hl
  show W zp l ze rm_X7_init zs zm ([.ref h0] : List Value).toArray zb zt zc zs.heap [] 0 0 (MQ zb (va_Qv (S := (Nat → Nat) × (Nat → Nat) × (Nat → Nat) × (Nat → Nat) × (Nat → Nat) × Nat × (Nat → Nat) × (Nat → Nat) × (Nat → Nat) × (Nat → Nat) × (Nat → Int32) × (Nat → Int32)) (po_X7_init h0) (fun zs zt => va_P D vwCl (wd_X7_init ca zs) zt.heap ∧ va_D A (wd_X7_init ca zs)) A) ([.ref h0] : List Value).toArray zs 32 4963 A) (F0 zm 0 ls [])
  refine lv_aload_n hx hb dX7_init_0 rfl (lv_at hl 0 rfl) ?_
  refine W.objInit hx hb hown (hts _ k_X7_init_1) (hts _ k_X7_init_2) (hts _ k_X7_init_3) rfl (by rw [hml]; exact hl.1) rfl dX7_init_1 (Nat.le_of_ble_eq_true rfl) (Nat.le_of_ble_eq_true rfl) ?_
  refine W.eq (g2 := F0 zm 4 ls []) rfl ?_
  refine lv_aload_n hx hb dX7_init_4 rfl (lv_at hl 0 rfl) ?_
  refine va_new (ci := 4) (fs := [.int 0, .null, .null]) (C := RX5) (T := TX5) (N := 3) hx hb hts hi_X7_init_X5 tyX5 tyX5_ok hown (hts _ k_X7_init_4) (hts _ k_X7_init_5) (hts _ k_X7_init_6) hK.1 hP hD hS hA rfl (fun j hj => by rcases (show j = 0 ∨ j = 1 ∨ j = 2 by omega) with rfl | rfl | rfl <;> rfl) (Nat.le_of_ble_eq_true rfl) (Nat.le_of_ble_eq_true rfl) dX7_init_5 (fun q5 H hP hD hS => ?_)
  have hP : va_P D vwCl (([(h0, .inr (6, [.null, .null, .null, .null, .null, .null, .null, .null, .null, .int 0]))]) ++ ([(q5, .inr (4, [.int 0, .null, .null]))])) H := hP
  have hD : va_D A (([(h0, .inr (6, [.null, .null, .null, .null, .null, .null, .null, .null, .null, .int 0]))]) ++ ([(q5, .inr (4, [.int 0, .null, .null]))])) := hD
  refine W.widen (k := 1) (n := 3) (Nat.le_of_ble_eq_true rfl) (Nat.le_of_ble_eq_true rfl) ?_
  refine lv_dup hx hb dX7_init_8 rfl ?_
  refine lv_bipush (v := (6)) hx hb dX7_init_9 (by decide) ?_
  refine lv_bipush (v := (40)) hx hb dX7_init_11 (by decide) ?_
  have hPc := hP.sub (ws' := [(q5, .inr (4, [.int 0, .null, .null]))]) [1] rfl
  have hDc := hD.sub (ws' := [(q5, .inr (4, [.int 0, .null, .null]))]) [1] (by decide) rfl
  have hFc := va_free (wc := [(q5, .inr (4, [.int 0, .null, .null]))]) hD hS hA [1] rfl
  refine va_callv (va_runI (As := [.int 6, .int 40]) (rest := [.ref q5, .ref h0]) ⟨hx, hb, hml, hown, hts⟩ (c_X5_inita l D ca q5 H.size) (cwI 2 hts gX7_init_X5_init rfl rfl rfl (hts _ k_X7_init_6) (hts _ k_X7_init_32) (hts _ k_X7_init_33) rfl (by decide +kernel) ⟨Nat.le_of_ble_eq_true rfl, Nat.le_of_ble_eq_true rfl⟩) (PcI.preS eT.moved trivial hK hPc hDc.any) rfl rfl hl.1 rfl (lv_room (Nat.le_of_ble_eq_true rfl)) dX7_init_13 ⟨Nat.le_of_ble_eq_true rfl, Nat.le_of_ble_eq_true rfl⟩) hS (fun q _ h => hFc q h) hFc (fun zu t H1 locs ht hvm hw hB hz1 hk1 hS => ?_)
  obtain ⟨u13, f13⟩ := zu
  obtain ⟨hw, hf13⟩ := hw
  obtain ⟨hP1, hD1⟩ := hB
  rw [ht] at hP1
  try dsimp only at hw
  have hP1 : va_P D vwCl (W_X5 ca u13 6 240 40 f13 (fun _ => 0)) H1 := hP1
  have hD1 : va_D (va_A ([(q5, .inr (4, [.int 0, .null, .null]))]) H.size) (W_X5 ca u13 6 240 40 f13 (fun _ => 0)) := hD1
  obtain ⟨hP, hD⟩ := va_join (wr := ([(h0, .inr (6, [.null, .null, .null, .null, .null, .null, .null, .null, .null, .int 0]))])) (w1 := W_X5 ca u13 6 240 40 f13 (fun _ => 0)) hP hD [1] [0] rfl rfl (by decide) (by decide) hk1 hFc hP1 hD1
  subst hw
  clear hPc hDc hFc hP1 hD1 hk1 hz1
  generalize H1 = H at hP hS ⊢
  have hP : va_P D vwCl (([(h0, .inr (6, [.null, .null, .null, .null, .null, .null, .null, .null, .null, .int 0]))]) ++ (W_X5 ca u13 6 240 40 f13 (fun _ => 0))) H := hP
  have hD : va_D A (([(h0, .inr (6, [.null, .null, .null, .null, .null, .null, .null, .null, .null, .int 0]))]) ++ (W_X5 ca u13 6 240 40 f13 (fun _ => 0))) := hD
  refine W.widen (k := 3) (n := 249) (Nat.le_of_ble_eq_true rfl) (Nat.le_of_ble_eq_true rfl) ?_
  refine va_putF (D := D) (ci := 6) (v := .ref (u13 0)) (ty := .object "IronedQuarrels$Shelf") (C := RX7) (T := TX7) (N := 10) hx hb hts hi_X7_init_X7 tyX7 tyX7_ok nmX7 hown hK.1 hP hD hS 0 rfl rfl 0 (by decide) (hts _ k_X7_init_7) (fun _ h9 => h9) rfl hin rfl (by decide +kernel) rfl rfl (Nat.le_of_ble_eq_true rfl) dX7_init_16 (fun H locs hP hD hS => ?_)
  have hP : va_P D vwCl (([(h0, .inr (6, [.ref (u13 0), .null, .null, .null, .null, .null, .null, .null, .null, .int 0]))]) ++ (W_X5 ca u13 6 240 40 f13 (fun _ => 0))) H := hP
  have hD : va_D A (([(h0, .inr (6, [.ref (u13 0), .null, .null, .null, .null, .null, .null, .null, .null, .int 0]))]) ++ (W_X5 ca u13 6 240 40 f13 (fun _ => 0))) := hD
  refine lv_aload_n hx hb dX7_init_19 rfl (lv_at hl 0 rfl) ?_
  refine va_new (ci := 4) (fs := [.int 0, .null, .null]) (C := RX5) (T := TX5) (N := 3) hx hb hts hi_X7_init_X5 tyX5 tyX5_ok hown (hts _ k_X7_init_4) (hts _ k_X7_init_5) (hts _ k_X7_init_6) hK.1 hP hD hS hA rfl (fun j hj => by rcases (show j = 0 ∨ j = 1 ∨ j = 2 by omega) with rfl | rfl | rfl <;> rfl) (Nat.le_of_ble_eq_true rfl) (Nat.le_of_ble_eq_true rfl) dX7_init_20 (fun q20 H hP hD hS => ?_)
  have hP : va_P D vwCl (([(h0, .inr (6, [.ref (u13 0), .null, .null, .null, .null, .null, .null, .null, .null, .int 0]))]) ++ (W_X5 ca u13 6 240 40 f13 (fun _ => 0)) ++ ([(q20, .inr (4, [.int 0, .null, .null]))])) H := hP
  have hD : va_D A (([(h0, .inr (6, [.ref (u13 0), .null, .null, .null, .null, .null, .null, .null, .null, .int 0]))]) ++ (W_X5 ca u13 6 240 40 f13 (fun _ => 0)) ++ ([(q20, .inr (4, [.int 0, .null, .null]))])) := hD
  refine W.widen (k := 4) (n := 252) (Nat.le_of_ble_eq_true rfl) (Nat.le_of_ble_eq_true rfl) ?_
  refine lv_dup hx hb dX7_init_23 rfl ?_
  refine lv_iconst (v := (4)) hx hb dX7_init_24 (by decide) ?_
  refine lv_bipush (v := (80)) hx hb dX7_init_25 (by decide) ?_
  have hPc := hP.sub (ws' := [(q20, .inr (4, [.int 0, .null, .null]))]) [4] rfl
  have hDc := hD.sub (ws' := [(q20, .inr (4, [.int 0, .null, .null]))]) [4] (by decide) rfl
  have hFc := va_free (wc := [(q20, .inr (4, [.int 0, .null, .null]))]) hD hS hA [4] rfl
  refine va_callv (va_runI (As := [.int 4, .int 80]) (rest := [.ref q20, .ref h0]) ⟨hx, hb, hml, hown, hts⟩ (c_X5_initb l D ca q20 H.size) (cwI 2 hts gX7_init_X5_init rfl rfl rfl (hts _ k_X7_init_6) (hts _ k_X7_init_32) (hts _ k_X7_init_33) rfl (by decide +kernel) ⟨Nat.le_of_ble_eq_true rfl, Nat.le_of_ble_eq_true rfl⟩) (PcI.preS eT.moved trivial hK hPc hDc.any) rfl rfl hl.1 rfl (lv_room (Nat.le_of_ble_eq_true rfl)) dX7_init_27 ⟨Nat.le_of_ble_eq_true rfl, Nat.le_of_ble_eq_true rfl⟩) hS (fun q _ h => hFc q h) hFc (fun zu t H1 locs ht hvm hw hB hz1 hk1 hS => ?_)
  obtain ⟨u27, f27⟩ := zu
  obtain ⟨hw, hf27⟩ := hw
  obtain ⟨hP1, hD1⟩ := hB
  rw [ht] at hP1
  try dsimp only at hw
  have hP1 : va_P D vwCl (W_X5 ca u27 4 320 80 f27 (fun _ => 0)) H1 := hP1
  have hD1 : va_D (va_A ([(q20, .inr (4, [.int 0, .null, .null]))]) H.size) (W_X5 ca u27 4 320 80 f27 (fun _ => 0)) := hD1
  obtain ⟨hP, hD⟩ := va_join (wr := ([(h0, .inr (6, [.ref (u13 0), .null, .null, .null, .null, .null, .null, .null, .null, .int 0]))]) ++ (W_X5 ca u13 6 240 40 f13 (fun _ => 0))) (w1 := W_X5 ca u27 4 320 80 f27 (fun _ => 0)) hP hD [4] [0, 1, 2, 3] rfl rfl (by decide) (by decide) hk1 hFc hP1 hD1
  subst hw
  clear hPc hDc hFc hP1 hD1 hk1 hz1
  generalize H1 = H at hP hS ⊢
  have hP : va_P D vwCl (([(h0, .inr (6, [.ref (u13 0), .null, .null, .null, .null, .null, .null, .null, .null, .int 0]))]) ++ (W_X5 ca u13 6 240 40 f13 (fun _ => 0)) ++ (W_X5 ca u27 4 320 80 f27 (fun _ => 0))) H := hP
  have hD : va_D A (([(h0, .inr (6, [.ref (u13 0), .null, .null, .null, .null, .null, .null, .null, .null, .int 0]))]) ++ (W_X5 ca u13 6 240 40 f13 (fun _ => 0)) ++ (W_X5 ca u27 4 320 80 f27 (fun _ => 0))) := hD
  refine W.widen (k := 6) (n := 576) (Nat.le_of_ble_eq_true rfl) (Nat.le_of_ble_eq_true rfl) ?_
  refine va_putF (D := D) (ci := 6) (v := .ref (u27 0)) (ty := .object "IronedQuarrels$Shelf") (C := RX7) (T := TX7) (N := 10) hx hb hts hi_X7_init_X7 tyX7 tyX7_ok nmX7 hown hK.1 hP hD hS 0 rfl rfl 1 (by decide) (hts _ k_X7_init_8) (fun _ h9 => h9) rfl hin rfl (by decide +kernel) rfl rfl (Nat.le_of_ble_eq_true rfl) dX7_init_30 (fun H locs hP hD hS => ?_)
  have hP : va_P D vwCl (([(h0, .inr (6, [.ref (u13 0), .ref (u27 0), .null, .null, .null, .null, .null, .null, .null, .int 0]))]) ++ (W_X5 ca u13 6 240 40 f13 (fun _ => 0)) ++ (W_X5 ca u27 4 320 80 f27 (fun _ => 0))) H := hP
  have hD : va_D A (([(h0, .inr (6, [.ref (u13 0), .ref (u27 0), .null, .null, .null, .null, .null, .null, .null, .int 0]))]) ++ (W_X5 ca u13 6 240 40 f13 (fun _ => 0)) ++ (W_X5 ca u27 4 320 80 f27 (fun _ => 0))) := hD
  refine lv_aload_n hx hb dX7_init_33 rfl (lv_at hl 0 rfl) ?_
  refine va_new (ci := 1) (fs := [.null, .null, .null, .null, .null, .null, .null, .int 0, .int 0, .int 0]) (C := RX1) (T := TX1) (N := 10) hx hb hts hi_X7_init_X1 tyX1 tyX1_ok hown (hts _ k_X7_init_9) (hts _ k_X7_init_10) (hts _ k_X7_init_11) hK.1 hP hD hS hA rfl (fun j hj => by rcases (show j = 0 ∨ j = 1 ∨ j = 2 ∨ j = 3 ∨ j = 4 ∨ j = 5 ∨ j = 6 ∨ j = 7 ∨ j = 8 ∨ j = 9 by omega) with rfl | rfl | rfl | rfl | rfl | rfl | rfl | rfl | rfl | rfl <;> rfl) (Nat.le_of_ble_eq_true rfl) (Nat.le_of_ble_eq_true rfl) dX7_init_34 (fun q34 H hP hD hS => ?_)
  have hP : va_P D vwCl (([(h0, .inr (6, [.ref (u13 0), .ref (u27 0), .null, .null, .null, .null, .null, .null, .null, .int 0]))]) ++ (W_X5 ca u13 6 240 40 f13 (fun _ => 0)) ++ (W_X5 ca u27 4 320 80 f27 (fun _ => 0)) ++ ([(q34, .inr (1, [.null, .null, .null, .null, .null, .null, .null, .int 0, .int 0, .int 0]))])) H := hP
  have hD : va_D A (([(h0, .inr (6, [.ref (u13 0), .ref (u27 0), .null, .null, .null, .null, .null, .null, .null, .int 0]))]) ++ (W_X5 ca u13 6 240 40 f13 (fun _ => 0)) ++ (W_X5 ca u27 4 320 80 f27 (fun _ => 0)) ++ ([(q34, .inr (1, [.null, .null, .null, .null, .null, .null, .null, .int 0, .int 0, .int 0]))])) := hD
  refine W.widen (k := 7) (n := 586) (Nat.le_of_ble_eq_true rfl) (Nat.le_of_ble_eq_true rfl) ?_
  refine lv_dup hx hb dX7_init_37 rfl ?_
  have hPc := hP.sub (ws' := [(q34, .inr (1, [.null, .null, .null, .null, .null, .null, .null, .int 0, .int 0, .int 0]))]) [7] rfl
  have hDc := hD.sub (ws' := [(q34, .inr (1, [.null, .null, .null, .null, .null, .null, .null, .int 0, .int 0, .int 0]))]) [7] (by decide) rfl
  have hFc := va_free (wc := [(q34, .inr (1, [.null, .null, .null, .null, .null, .null, .null, .int 0, .int 0, .int 0]))]) hD hS hA [7] rfl
  refine va_callv (va_runIN (As := []) (rest := [.ref q34, .ref h0]) ⟨hx, hb, hml, hown, hts⟩ (c_X1_init l D ca q34 H.size) ⟨va_cnB 0 hts gX7_init_X1_init_n23 rfl rfl rfl (hK.2 (RX7, 23, yX1_init, "IronedQuarrels") (List.mem_of_getElem? (i := 0) rfl)) (hts _ k_X7_init_11) (by decide +kernel) ⟨Nat.le_of_ble_eq_true rfl, Nat.le_of_ble_eq_true rfl⟩, rfl, (hts _ k_X7_init_44)⟩ (PcI.preS eT.moved trivial hK hPc hDc.any) rfl rfl hl.1 rfl (lv_room (Nat.le_of_ble_eq_true rfl)) dX7_init_38 ⟨Nat.le_of_ble_eq_true rfl, Nat.le_of_ble_eq_true rfl⟩) hS (fun q _ h => hFc q h) hFc (fun zu t H1 locs ht hvm hw hB hz1 hk1 hS => ?_)
  obtain ⟨u38, rfl⟩ : ∃ zz, zz = zu := ⟨zu, rfl⟩
  obtain ⟨hP1, hD1⟩ := hB
  rw [ht] at hP1
  try dsimp only at hw
  have hP1 : va_P D vwCl (W_X1 ca u38 (fun _ => 0) (fun _ => 0) (fun _ => 0) (fun _ => 0) (fun _ => 0) (fun _ => 0) (fun _ => 0) 0 0 0) H1 := hP1
  have hD1 : va_D (va_A ([(q34, .inr (1, [.null, .null, .null, .null, .null, .null, .null, .int 0, .int 0, .int 0]))]) H.size) (W_X1 ca u38 (fun _ => 0) (fun _ => 0) (fun _ => 0) (fun _ => 0) (fun _ => 0) (fun _ => 0) (fun _ => 0) 0 0 0) := hD1
  obtain ⟨hP, hD⟩ := va_join (wr := ([(h0, .inr (6, [.ref (u13 0), .ref (u27 0), .null, .null, .null, .null, .null, .null, .null, .int 0]))]) ++ (W_X5 ca u13 6 240 40 f13 (fun _ => 0)) ++ (W_X5 ca u27 4 320 80 f27 (fun _ => 0))) (w1 := W_X1 ca u38 (fun _ => 0) (fun _ => 0) (fun _ => 0) (fun _ => 0) (fun _ => 0) (fun _ => 0) (fun _ => 0) 0 0 0) hP hD [7] [0, 1, 2, 3, 4, 5, 6] rfl rfl (by decide) (by decide) hk1 hFc hP1 hD1
  subst hw
  clear hPc hDc hFc hP1 hD1 hk1 hz1
  generalize H1 = H at hP hS ⊢
  have hP : va_P D vwCl (([(h0, .inr (6, [.ref (u13 0), .ref (u27 0), .null, .null, .null, .null, .null, .null, .null, .int 0]))]) ++ (W_X5 ca u13 6 240 40 f13 (fun _ => 0)) ++ (W_X5 ca u27 4 320 80 f27 (fun _ => 0)) ++ (W_X1 ca u38 (fun _ => 0) (fun _ => 0) (fun _ => 0) (fun _ => 0) (fun _ => 0) (fun _ => 0) (fun _ => 0) 0 0 0)) H := hP
  have hD : va_D A (([(h0, .inr (6, [.ref (u13 0), .ref (u27 0), .null, .null, .null, .null, .null, .null, .null, .int 0]))]) ++ (W_X5 ca u13 6 240 40 f13 (fun _ => 0)) ++ (W_X5 ca u27 4 320 80 f27 (fun _ => 0)) ++ (W_X1 ca u38 (fun _ => 0) (fun _ => 0) (fun _ => 0) (fun _ => 0) (fun _ => 0) (fun _ => 0) (fun _ => 0) 0 0 0)) := hD
  refine W.widen (k := 14) (n := 698) (Nat.le_of_ble_eq_true rfl) (Nat.le_of_ble_eq_true rfl) ?_
  refine va_putF (D := D) (ci := 6) (v := .ref (u38 0)) (ty := .object "IronedQuarrels$Heap") (C := RX7) (T := TX7) (N := 10) hx hb hts hi_X7_init_X7 tyX7 tyX7_ok nmX7 hown hK.1 hP hD hS 0 rfl rfl 2 (by decide) (hts _ k_X7_init_12) (fun _ h9 => h9) rfl hin rfl (by decide +kernel) rfl rfl (Nat.le_of_ble_eq_true rfl) dX7_init_41 (fun H locs hP hD hS => ?_)
  have hP : va_P D vwCl (([(h0, .inr (6, [.ref (u13 0), .ref (u27 0), .ref (u38 0), .null, .null, .null, .null, .null, .null, .int 0]))]) ++ (W_X5 ca u13 6 240 40 f13 (fun _ => 0)) ++ (W_X5 ca u27 4 320 80 f27 (fun _ => 0)) ++ (W_X1 ca u38 (fun _ => 0) (fun _ => 0) (fun _ => 0) (fun _ => 0) (fun _ => 0) (fun _ => 0) (fun _ => 0) 0 0 0)) H := hP
  have hD : va_D A (([(h0, .inr (6, [.ref (u13 0), .ref (u27 0), .ref (u38 0), .null, .null, .null, .null, .null, .null, .int 0]))]) ++ (W_X5 ca u13 6 240 40 f13 (fun _ => 0)) ++ (W_X5 ca u27 4 320 80 f27 (fun _ => 0)) ++ (W_X1 ca u38 (fun _ => 0) (fun _ => 0) (fun _ => 0) (fun _ => 0) (fun _ => 0) (fun _ => 0) (fun _ => 0) 0 0 0)) := hD
  refine lv_aload_n hx hb dX7_init_44 rfl (lv_at hl 0 rfl) ?_
  refine va_new (ci := 1) (fs := [.null, .null, .null, .null, .null, .null, .null, .int 0, .int 0, .int 0]) (C := RX1) (T := TX1) (N := 10) hx hb hts hi_X7_init_X1 tyX1 tyX1_ok hown (hts _ k_X7_init_9) (hts _ k_X7_init_10) (hts _ k_X7_init_11) hK.1 hP hD hS hA rfl (fun j hj => by rcases (show j = 0 ∨ j = 1 ∨ j = 2 ∨ j = 3 ∨ j = 4 ∨ j = 5 ∨ j = 6 ∨ j = 7 ∨ j = 8 ∨ j = 9 by omega) with rfl | rfl | rfl | rfl | rfl | rfl | rfl | rfl | rfl | rfl <;> rfl) (Nat.le_of_ble_eq_true rfl) (Nat.le_of_ble_eq_true rfl) dX7_init_45 (fun q45 H hP hD hS => ?_)
  have hP : va_P D vwCl (([(h0, .inr (6, [.ref (u13 0), .ref (u27 0), .ref (u38 0), .null, .null, .null, .null, .null, .null, .int 0]))]) ++ (W_X5 ca u13 6 240 40 f13 (fun _ => 0)) ++ (W_X5 ca u27 4 320 80 f27 (fun _ => 0)) ++ (W_X1 ca u38 (fun _ => 0) (fun _ => 0) (fun _ => 0) (fun _ => 0) (fun _ => 0) (fun _ => 0) (fun _ => 0) 0 0 0) ++ ([(q45, .inr (1, [.null, .null, .null, .null, .null, .null, .null, .int 0, .int 0, .int 0]))])) H := hP
  have hD : va_D A (([(h0, .inr (6, [.ref (u13 0), .ref (u27 0), .ref (u38 0), .null, .null, .null, .null, .null, .null, .int 0]))]) ++ (W_X5 ca u13 6 240 40 f13 (fun _ => 0)) ++ (W_X5 ca u27 4 320 80 f27 (fun _ => 0)) ++ (W_X1 ca u38 (fun _ => 0) (fun _ => 0) (fun _ => 0) (fun _ => 0) (fun _ => 0) (fun _ => 0) (fun _ => 0) 0 0 0) ++ ([(q45, .inr (1, [.null, .null, .null, .null, .null, .null, .null, .int 0, .int 0, .int 0]))])) := hD
  refine W.widen (k := 15) (n := 708) (Nat.le_of_ble_eq_true rfl) (Nat.le_of_ble_eq_true rfl) ?_
  refine lv_dup hx hb dX7_init_48 rfl ?_
  have hPc := hP.sub (ws' := [(q45, .inr (1, [.null, .null, .null, .null, .null, .null, .null, .int 0, .int 0, .int 0]))]) [15] rfl
  have hDc := hD.sub (ws' := [(q45, .inr (1, [.null, .null, .null, .null, .null, .null, .null, .int 0, .int 0, .int 0]))]) [15] (by decide) rfl
  have hFc := va_free (wc := [(q45, .inr (1, [.null, .null, .null, .null, .null, .null, .null, .int 0, .int 0, .int 0]))]) hD hS hA [15] rfl
  refine va_callv (va_runIN (As := []) (rest := [.ref q45, .ref h0]) ⟨hx, hb, hml, hown, hts⟩ (c_X1_init l D ca q45 H.size) ⟨va_cnB 0 hts gX7_init_X1_init_n23 rfl rfl rfl (hK.2 (RX7, 23, yX1_init, "IronedQuarrels") (List.mem_of_getElem? (i := 0) rfl)) (hts _ k_X7_init_11) (by decide +kernel) ⟨Nat.le_of_ble_eq_true rfl, Nat.le_of_ble_eq_true rfl⟩, rfl, (hts _ k_X7_init_44)⟩ (PcI.preS eT.moved trivial hK hPc hDc.any) rfl rfl hl.1 rfl (lv_room (Nat.le_of_ble_eq_true rfl)) dX7_init_49 ⟨Nat.le_of_ble_eq_true rfl, Nat.le_of_ble_eq_true rfl⟩) hS (fun q _ h => hFc q h) hFc (fun zu t H1 locs ht hvm hw hB hz1 hk1 hS => ?_)
  obtain ⟨u49, rfl⟩ : ∃ zz, zz = zu := ⟨zu, rfl⟩
  obtain ⟨hP1, hD1⟩ := hB
  rw [ht] at hP1
  try dsimp only at hw
  have hP1 : va_P D vwCl (W_X1 ca u49 (fun _ => 0) (fun _ => 0) (fun _ => 0) (fun _ => 0) (fun _ => 0) (fun _ => 0) (fun _ => 0) 0 0 0) H1 := hP1
  have hD1 : va_D (va_A ([(q45, .inr (1, [.null, .null, .null, .null, .null, .null, .null, .int 0, .int 0, .int 0]))]) H.size) (W_X1 ca u49 (fun _ => 0) (fun _ => 0) (fun _ => 0) (fun _ => 0) (fun _ => 0) (fun _ => 0) (fun _ => 0) 0 0 0) := hD1
  obtain ⟨hP, hD⟩ := va_join (wr := ([(h0, .inr (6, [.ref (u13 0), .ref (u27 0), .ref (u38 0), .null, .null, .null, .null, .null, .null, .int 0]))]) ++ (W_X5 ca u13 6 240 40 f13 (fun _ => 0)) ++ (W_X5 ca u27 4 320 80 f27 (fun _ => 0)) ++ (W_X1 ca u38 (fun _ => 0) (fun _ => 0) (fun _ => 0) (fun _ => 0) (fun _ => 0) (fun _ => 0) (fun _ => 0) 0 0 0)) (w1 := W_X1 ca u49 (fun _ => 0) (fun _ => 0) (fun _ => 0) (fun _ => 0) (fun _ => 0) (fun _ => 0) (fun _ => 0) 0 0 0) hP hD [15] [0, 1, 2, 3, 4, 5, 6, 7, 8, 9, 10, 11, 12, 13, 14] rfl rfl (by decide) (by decide) hk1 hFc hP1 hD1
  subst hw
  clear hPc hDc hFc hP1 hD1 hk1 hz1
  generalize H1 = H at hP hS ⊢
  have hP : va_P D vwCl (([(h0, .inr (6, [.ref (u13 0), .ref (u27 0), .ref (u38 0), .null, .null, .null, .null, .null, .null, .int 0]))]) ++ (W_X5 ca u13 6 240 40 f13 (fun _ => 0)) ++ (W_X5 ca u27 4 320 80 f27 (fun _ => 0)) ++ (W_X1 ca u38 (fun _ => 0) (fun _ => 0) (fun _ => 0) (fun _ => 0) (fun _ => 0) (fun _ => 0) (fun _ => 0) 0 0 0) ++ (W_X1 ca u49 (fun _ => 0) (fun _ => 0) (fun _ => 0) (fun _ => 0) (fun _ => 0) (fun _ => 0) (fun _ => 0) 0 0 0)) H := hP
  have hD : va_D A (([(h0, .inr (6, [.ref (u13 0), .ref (u27 0), .ref (u38 0), .null, .null, .null, .null, .null, .null, .int 0]))]) ++ (W_X5 ca u13 6 240 40 f13 (fun _ => 0)) ++ (W_X5 ca u27 4 320 80 f27 (fun _ => 0)) ++ (W_X1 ca u38 (fun _ => 0) (fun _ => 0) (fun _ => 0) (fun _ => 0) (fun _ => 0) (fun _ => 0) (fun _ => 0) 0 0 0) ++ (W_X1 ca u49 (fun _ => 0) (fun _ => 0) (fun _ => 0) (fun _ => 0) (fun _ => 0) (fun _ => 0) (fun _ => 0) 0 0 0)) := hD
  refine W.widen (k := 22) (n := 820) (Nat.le_of_ble_eq_true rfl) (Nat.le_of_ble_eq_true rfl) ?_
  refine va_putF (D := D) (ci := 6) (v := .ref (u49 0)) (ty := .object "IronedQuarrels$Heap") (C := RX7) (T := TX7) (N := 10) hx hb hts hi_X7_init_X7 tyX7 tyX7_ok nmX7 hown hK.1 hP hD hS 0 rfl rfl 3 (by decide) (hts _ k_X7_init_13) (fun _ h9 => h9) rfl hin rfl (by decide +kernel) rfl rfl (Nat.le_of_ble_eq_true rfl) dX7_init_52 (fun H locs hP hD hS => ?_)
  have hP : va_P D vwCl (([(h0, .inr (6, [.ref (u13 0), .ref (u27 0), .ref (u38 0), .ref (u49 0), .null, .null, .null, .null, .null, .int 0]))]) ++ (W_X5 ca u13 6 240 40 f13 (fun _ => 0)) ++ (W_X5 ca u27 4 320 80 f27 (fun _ => 0)) ++ (W_X1 ca u38 (fun _ => 0) (fun _ => 0) (fun _ => 0) (fun _ => 0) (fun _ => 0) (fun _ => 0) (fun _ => 0) 0 0 0) ++ (W_X1 ca u49 (fun _ => 0) (fun _ => 0) (fun _ => 0) (fun _ => 0) (fun _ => 0) (fun _ => 0) (fun _ => 0) 0 0 0)) H := hP
  have hD : va_D A (([(h0, .inr (6, [.ref (u13 0), .ref (u27 0), .ref (u38 0), .ref (u49 0), .null, .null, .null, .null, .null, .int 0]))]) ++ (W_X5 ca u13 6 240 40 f13 (fun _ => 0)) ++ (W_X5 ca u27 4 320 80 f27 (fun _ => 0)) ++ (W_X1 ca u38 (fun _ => 0) (fun _ => 0) (fun _ => 0) (fun _ => 0) (fun _ => 0) (fun _ => 0) (fun _ => 0) 0 0 0) ++ (W_X1 ca u49 (fun _ => 0) (fun _ => 0) (fun _ => 0) (fun _ => 0) (fun _ => 0) (fun _ => 0) (fun _ => 0) 0 0 0)) := hD
  refine lv_aload_n hx hb dX7_init_55 rfl (lv_at hl 0 rfl) ?_
  refine lv_iconst (v := (3)) hx hb dX7_init_56 (by decide) ?_
  refine va_newq (C := RX1) (N' := 3) hx hb hown (hts _ k_X7_init_9) hE hK.1 hP hD hS hA (by decide) (by decide) (Nat.le_of_ble_eq_true rfl) (Nat.le_of_ble_eq_true rfl) (Nat.le_of_ble_eq_true rfl) dX7_init_57 (fun q57 cA H hK1 hP hD hS => ?_)
  obtain rfl := ca_heap hK1
  have hP : va_P D vwCl (([(h0, .inr (6, [.ref (u13 0), .ref (u27 0), .ref (u38 0), .ref (u49 0), .null, .null, .null, .null, .null, .int 0]))]) ++ (W_X5 ca u13 6 240 40 f13 (fun _ => 0)) ++ (W_X5 ca u27 4 320 80 f27 (fun _ => 0)) ++ (W_X1 ca u38 (fun _ => 0) (fun _ => 0) (fun _ => 0) (fun _ => 0) (fun _ => 0) (fun _ => 0) (fun _ => 0) 0 0 0) ++ (W_X1 ca u49 (fun _ => 0) (fun _ => 0) (fun _ => 0) (fun _ => 0) (fun _ => 0) (fun _ => 0) (fun _ => 0) 0 0 0) ++ (W_K ca q57 (fun _ => none))) H := hP
  have hD : va_D A (([(h0, .inr (6, [.ref (u13 0), .ref (u27 0), .ref (u38 0), .ref (u49 0), .null, .null, .null, .null, .null, .int 0]))]) ++ (W_X5 ca u13 6 240 40 f13 (fun _ => 0)) ++ (W_X5 ca u27 4 320 80 f27 (fun _ => 0)) ++ (W_X1 ca u38 (fun _ => 0) (fun _ => 0) (fun _ => 0) (fun _ => 0) (fun _ => 0) (fun _ => 0) (fun _ => 0) 0 0 0) ++ (W_X1 ca u49 (fun _ => 0) (fun _ => 0) (fun _ => 0) (fun _ => 0) (fun _ => 0) (fun _ => 0) (fun _ => 0) 0 0 0) ++ (W_K ca q57 (fun _ => none))) := hD
  refine W.widen (k := 23) (n := 823) (Nat.le_of_ble_eq_true rfl) (Nat.le_of_ble_eq_true rfl) ?_
  refine va_putF (D := D) (ci := 6) (v := .ref q57) (ty := .array (.object "IronedQuarrels$Heap")) (C := RX7) (T := TX7) (N := 10) hx hb hts hi_X7_init_X7 tyX7 tyX7_ok nmX7 hown hK.1 hP hD hS 0 rfl rfl 4 (by decide) (hts _ k_X7_init_14) (fun _ h9 => h9) rfl hin rfl (by decide +kernel) rfl rfl (Nat.le_of_ble_eq_true rfl) dX7_init_60 (fun H locs hP hD hS => ?_)
  have hP : va_P D vwCl (([(h0, .inr (6, [.ref (u13 0), .ref (u27 0), .ref (u38 0), .ref (u49 0), .ref q57, .null, .null, .null, .null, .int 0]))]) ++ (W_X5 ca u13 6 240 40 f13 (fun _ => 0)) ++ (W_X5 ca u27 4 320 80 f27 (fun _ => 0)) ++ (W_X1 ca u38 (fun _ => 0) (fun _ => 0) (fun _ => 0) (fun _ => 0) (fun _ => 0) (fun _ => 0) (fun _ => 0) 0 0 0) ++ (W_X1 ca u49 (fun _ => 0) (fun _ => 0) (fun _ => 0) (fun _ => 0) (fun _ => 0) (fun _ => 0) (fun _ => 0) 0 0 0) ++ (W_K ca q57 (fun _ => none))) H := hP
  have hD : va_D A (([(h0, .inr (6, [.ref (u13 0), .ref (u27 0), .ref (u38 0), .ref (u49 0), .ref q57, .null, .null, .null, .null, .int 0]))]) ++ (W_X5 ca u13 6 240 40 f13 (fun _ => 0)) ++ (W_X5 ca u27 4 320 80 f27 (fun _ => 0)) ++ (W_X1 ca u38 (fun _ => 0) (fun _ => 0) (fun _ => 0) (fun _ => 0) (fun _ => 0) (fun _ => 0) (fun _ => 0) 0 0 0) ++ (W_X1 ca u49 (fun _ => 0) (fun _ => 0) (fun _ => 0) (fun _ => 0) (fun _ => 0) (fun _ => 0) (fun _ => 0) 0 0 0) ++ (W_K ca q57 (fun _ => none))) := hD
  refine lv_aload_n hx hb dX7_init_63 rfl (lv_at hl 0 rfl) ?_
  refine va_new (ci := 2) (fs := [.null, .null, .null]) (C := RX2) (T := TX2) (N := 3) hx hb hts hi_X7_init_X2 tyX2 tyX2_ok hown (hts _ k_X7_init_15) (hts _ k_X7_init_16) (hts _ k_X7_init_17) hK.1 hP hD hS hA rfl (fun j hj => by rcases (show j = 0 ∨ j = 1 ∨ j = 2 by omega) with rfl | rfl | rfl <;> rfl) (Nat.le_of_ble_eq_true rfl) (Nat.le_of_ble_eq_true rfl) dX7_init_64 (fun q64 H hP hD hS => ?_)
  have hP : va_P D vwCl (([(h0, .inr (6, [.ref (u13 0), .ref (u27 0), .ref (u38 0), .ref (u49 0), .ref q57, .null, .null, .null, .null, .int 0]))]) ++ (W_X5 ca u13 6 240 40 f13 (fun _ => 0)) ++ (W_X5 ca u27 4 320 80 f27 (fun _ => 0)) ++ (W_X1 ca u38 (fun _ => 0) (fun _ => 0) (fun _ => 0) (fun _ => 0) (fun _ => 0) (fun _ => 0) (fun _ => 0) 0 0 0) ++ (W_X1 ca u49 (fun _ => 0) (fun _ => 0) (fun _ => 0) (fun _ => 0) (fun _ => 0) (fun _ => 0) (fun _ => 0) 0 0 0) ++ (W_K ca q57 (fun _ => none)) ++ ([(q64, .inr (2, [.null, .null, .null]))])) H := hP
  have hD : va_D A (([(h0, .inr (6, [.ref (u13 0), .ref (u27 0), .ref (u38 0), .ref (u49 0), .ref q57, .null, .null, .null, .null, .int 0]))]) ++ (W_X5 ca u13 6 240 40 f13 (fun _ => 0)) ++ (W_X5 ca u27 4 320 80 f27 (fun _ => 0)) ++ (W_X1 ca u38 (fun _ => 0) (fun _ => 0) (fun _ => 0) (fun _ => 0) (fun _ => 0) (fun _ => 0) (fun _ => 0) 0 0 0) ++ (W_X1 ca u49 (fun _ => 0) (fun _ => 0) (fun _ => 0) (fun _ => 0) (fun _ => 0) (fun _ => 0) (fun _ => 0) 0 0 0) ++ (W_K ca q57 (fun _ => none)) ++ ([(q64, .inr (2, [.null, .null, .null]))])) := hD
  refine W.widen (k := 24) (n := 826) (Nat.le_of_ble_eq_true rfl) (Nat.le_of_ble_eq_true rfl) ?_
  refine lv_dup hx hb dX7_init_67 rfl ?_
  have hPc := hP.sub (ws' := [(q64, .inr (2, [.null, .null, .null]))]) [24] rfl
  have hDc := hD.sub (ws' := [(q64, .inr (2, [.null, .null, .null]))]) [24] (by decide) rfl
  have hFc := va_free (wc := [(q64, .inr (2, [.null, .null, .null]))]) hD hS hA [24] rfl
  refine va_callv (va_runIN (As := []) (rest := [.ref q64, .ref h0]) ⟨hx, hb, hml, hown, hts⟩ (c_X2_init l D ca q64 H.size) ⟨va_cnB 0 hts gX7_init_X2_init_n37 rfl rfl rfl (hK.2 (RX7, 37, yX2_init, "IronedQuarrels") (List.mem_of_getElem? (i := 1) rfl)) (hts _ k_X7_init_17) (by decide +kernel) ⟨Nat.le_of_ble_eq_true rfl, Nat.le_of_ble_eq_true rfl⟩, rfl, (hts _ k_X7_init_57)⟩ (PcI.preS eT.moved trivial hK hPc hDc.any) rfl rfl hl.1 rfl (lv_room (Nat.le_of_ble_eq_true rfl)) dX7_init_68 ⟨Nat.le_of_ble_eq_true rfl, Nat.le_of_ble_eq_true rfl⟩) hS (fun q _ h => hFc q h) hFc (fun zu t H1 locs ht hvm hw hB hz1 hk1 hS => ?_)
  obtain ⟨u68, rfl⟩ : ∃ zz, zz = zu := ⟨zu, rfl⟩
  obtain ⟨hP1, hD1⟩ := hB
  rw [ht] at hP1
  try dsimp only at hw
  have hP1 : va_P D vwCl (W_X2 ca u68 (fun _ => 0) (fun _ => 0) (fun _ => 0)) H1 := hP1
  have hD1 : va_D (va_A ([(q64, .inr (2, [.null, .null, .null]))]) H.size) (W_X2 ca u68 (fun _ => 0) (fun _ => 0) (fun _ => 0)) := hD1
  obtain ⟨hP, hD⟩ := va_join (wr := ([(h0, .inr (6, [.ref (u13 0), .ref (u27 0), .ref (u38 0), .ref (u49 0), .ref q57, .null, .null, .null, .null, .int 0]))]) ++ (W_X5 ca u13 6 240 40 f13 (fun _ => 0)) ++ (W_X5 ca u27 4 320 80 f27 (fun _ => 0)) ++ (W_X1 ca u38 (fun _ => 0) (fun _ => 0) (fun _ => 0) (fun _ => 0) (fun _ => 0) (fun _ => 0) (fun _ => 0) 0 0 0) ++ (W_X1 ca u49 (fun _ => 0) (fun _ => 0) (fun _ => 0) (fun _ => 0) (fun _ => 0) (fun _ => 0) (fun _ => 0) 0 0 0) ++ (W_K ca q57 (fun _ => none))) (w1 := W_X2 ca u68 (fun _ => 0) (fun _ => 0) (fun _ => 0)) hP hD [24] [0, 1, 2, 3, 4, 5, 6, 7, 8, 9, 10, 11, 12, 13, 14, 15, 16, 17, 18, 19, 20, 21, 22, 23] rfl rfl (by decide) (by decide) hk1 hFc hP1 hD1
  subst hw
  clear hPc hDc hFc hP1 hD1 hk1 hz1
  generalize H1 = H at hP hS ⊢
  have hP : va_P D vwCl (([(h0, .inr (6, [.ref (u13 0), .ref (u27 0), .ref (u38 0), .ref (u49 0), .ref q57, .null, .null, .null, .null, .int 0]))]) ++ (W_X5 ca u13 6 240 40 f13 (fun _ => 0)) ++ (W_X5 ca u27 4 320 80 f27 (fun _ => 0)) ++ (W_X1 ca u38 (fun _ => 0) (fun _ => 0) (fun _ => 0) (fun _ => 0) (fun _ => 0) (fun _ => 0) (fun _ => 0) 0 0 0) ++ (W_X1 ca u49 (fun _ => 0) (fun _ => 0) (fun _ => 0) (fun _ => 0) (fun _ => 0) (fun _ => 0) (fun _ => 0) 0 0 0) ++ (W_K ca q57 (fun _ => none)) ++ (W_X2 ca u68 (fun _ => 0) (fun _ => 0) (fun _ => 0))) H := hP
  have hD : va_D A (([(h0, .inr (6, [.ref (u13 0), .ref (u27 0), .ref (u38 0), .ref (u49 0), .ref q57, .null, .null, .null, .null, .int 0]))]) ++ (W_X5 ca u13 6 240 40 f13 (fun _ => 0)) ++ (W_X5 ca u27 4 320 80 f27 (fun _ => 0)) ++ (W_X1 ca u38 (fun _ => 0) (fun _ => 0) (fun _ => 0) (fun _ => 0) (fun _ => 0) (fun _ => 0) (fun _ => 0) 0 0 0) ++ (W_X1 ca u49 (fun _ => 0) (fun _ => 0) (fun _ => 0) (fun _ => 0) (fun _ => 0) (fun _ => 0) (fun _ => 0) 0 0 0) ++ (W_K ca q57 (fun _ => none)) ++ (W_X2 ca u68 (fun _ => 0) (fun _ => 0) (fun _ => 0))) := hD
  refine W.widen (k := 27) (n := 4946) (Nat.le_of_ble_eq_true rfl) (Nat.le_of_ble_eq_true rfl) ?_
  refine va_putF (D := D) (ci := 6) (v := .ref (u68 0)) (ty := .object "IronedQuarrels$Ironing") (C := RX7) (T := TX7) (N := 10) hx hb hts hi_X7_init_X7 tyX7 tyX7_ok nmX7 hown hK.1 hP hD hS 0 rfl rfl 5 (by decide) (hts _ k_X7_init_18) (fun _ h9 => h9) rfl hin rfl (by decide +kernel) rfl rfl (Nat.le_of_ble_eq_true rfl) dX7_init_71 (fun H locs hP hD hS => ?_)
  have hP : va_P D vwCl (([(h0, .inr (6, [.ref (u13 0), .ref (u27 0), .ref (u38 0), .ref (u49 0), .ref q57, .ref (u68 0), .null, .null, .null, .int 0]))]) ++ (W_X5 ca u13 6 240 40 f13 (fun _ => 0)) ++ (W_X5 ca u27 4 320 80 f27 (fun _ => 0)) ++ (W_X1 ca u38 (fun _ => 0) (fun _ => 0) (fun _ => 0) (fun _ => 0) (fun _ => 0) (fun _ => 0) (fun _ => 0) 0 0 0) ++ (W_X1 ca u49 (fun _ => 0) (fun _ => 0) (fun _ => 0) (fun _ => 0) (fun _ => 0) (fun _ => 0) (fun _ => 0) 0 0 0) ++ (W_K ca q57 (fun _ => none)) ++ (W_X2 ca u68 (fun _ => 0) (fun _ => 0) (fun _ => 0))) H := hP
  have hD : va_D A (([(h0, .inr (6, [.ref (u13 0), .ref (u27 0), .ref (u38 0), .ref (u49 0), .ref q57, .ref (u68 0), .null, .null, .null, .int 0]))]) ++ (W_X5 ca u13 6 240 40 f13 (fun _ => 0)) ++ (W_X5 ca u27 4 320 80 f27 (fun _ => 0)) ++ (W_X1 ca u38 (fun _ => 0) (fun _ => 0) (fun _ => 0) (fun _ => 0) (fun _ => 0) (fun _ => 0) (fun _ => 0) 0 0 0) ++ (W_X1 ca u49 (fun _ => 0) (fun _ => 0) (fun _ => 0) (fun _ => 0) (fun _ => 0) (fun _ => 0) (fun _ => 0) 0 0 0) ++ (W_K ca q57 (fun _ => none)) ++ (W_X2 ca u68 (fun _ => 0) (fun _ => 0) (fun _ => 0))) := hD
  refine lv_aload_n hx hb dX7_init_74 rfl (lv_at hl 0 rfl) ?_
  refine va_new (ci := 0) (fs := [.null]) (C := RX0) (T := TX0) (N := 1) hx hb hts hi_X7_init_X0 tyX0 tyX0_ok hown (hts _ k_X7_init_19) (hts _ k_X7_init_20) (hts _ k_X7_init_21) hK.1 hP hD hS hA rfl (fun j hj => by rcases (show j = 0 by omega) with rfl <;> rfl) (Nat.le_of_ble_eq_true rfl) (Nat.le_of_ble_eq_true rfl) dX7_init_75 (fun q75 H hP hD hS => ?_)
  have hP : va_P D vwCl (([(h0, .inr (6, [.ref (u13 0), .ref (u27 0), .ref (u38 0), .ref (u49 0), .ref q57, .ref (u68 0), .null, .null, .null, .int 0]))]) ++ (W_X5 ca u13 6 240 40 f13 (fun _ => 0)) ++ (W_X5 ca u27 4 320 80 f27 (fun _ => 0)) ++ (W_X1 ca u38 (fun _ => 0) (fun _ => 0) (fun _ => 0) (fun _ => 0) (fun _ => 0) (fun _ => 0) (fun _ => 0) 0 0 0) ++ (W_X1 ca u49 (fun _ => 0) (fun _ => 0) (fun _ => 0) (fun _ => 0) (fun _ => 0) (fun _ => 0) (fun _ => 0) 0 0 0) ++ (W_K ca q57 (fun _ => none)) ++ (W_X2 ca u68 (fun _ => 0) (fun _ => 0) (fun _ => 0)) ++ ([(q75, .inr (0, [.null]))])) H := hP
  have hD : va_D A (([(h0, .inr (6, [.ref (u13 0), .ref (u27 0), .ref (u38 0), .ref (u49 0), .ref q57, .ref (u68 0), .null, .null, .null, .int 0]))]) ++ (W_X5 ca u13 6 240 40 f13 (fun _ => 0)) ++ (W_X5 ca u27 4 320 80 f27 (fun _ => 0)) ++ (W_X1 ca u38 (fun _ => 0) (fun _ => 0) (fun _ => 0) (fun _ => 0) (fun _ => 0) (fun _ => 0) (fun _ => 0) 0 0 0) ++ (W_X1 ca u49 (fun _ => 0) (fun _ => 0) (fun _ => 0) (fun _ => 0) (fun _ => 0) (fun _ => 0) (fun _ => 0) 0 0 0) ++ (W_K ca q57 (fun _ => none)) ++ (W_X2 ca u68 (fun _ => 0) (fun _ => 0) (fun _ => 0)) ++ ([(q75, .inr (0, [.null]))])) := hD
  refine W.widen (k := 28) (n := 4947) (Nat.le_of_ble_eq_true rfl) (Nat.le_of_ble_eq_true rfl) ?_
  refine lv_dup hx hb dX7_init_78 rfl ?_
  have hPc := hP.sub (ws' := [(q75, .inr (0, [.null]))]) [28] rfl
  have hDc := hD.sub (ws' := [(q75, .inr (0, [.null]))]) [28] (by decide) rfl
  have hFc := va_free (wc := [(q75, .inr (0, [.null]))]) hD hS hA [28] rfl
  refine va_callv (va_runIN (As := []) (rest := [.ref q75, .ref h0]) ⟨hx, hb, hml, hown, hts⟩ (c_X0_init l D ca q75 H.size) ⟨va_cnB 0 hts gX7_init_X0_init_n44 rfl rfl rfl (hK.2 (RX7, 44, yX0_init, "IronedQuarrels") (List.mem_of_getElem? (i := 2) rfl)) (hts _ k_X7_init_21) (by decide +kernel) ⟨Nat.le_of_ble_eq_true rfl, Nat.le_of_ble_eq_true rfl⟩, rfl, (hts _ k_X7_init_63)⟩ (PcI.preS eT.moved trivial hK hPc hDc.any) rfl rfl hl.1 rfl (lv_room (Nat.le_of_ble_eq_true rfl)) dX7_init_79 ⟨Nat.le_of_ble_eq_true rfl, Nat.le_of_ble_eq_true rfl⟩) hS (fun q _ h => hFc q h) hFc (fun zu t H1 locs ht hvm hw hB hz1 hk1 hS => ?_)
  obtain ⟨u79, rfl⟩ : ∃ zz, zz = zu := ⟨zu, rfl⟩
  obtain ⟨hP1, hD1⟩ := hB
  rw [ht] at hP1
  try dsimp only at hw
  have hP1 : va_P D vwCl (W_X0 ca u79 (fun _ => 0)) H1 := hP1
  have hD1 : va_D (va_A ([(q75, .inr (0, [.null]))]) H.size) (W_X0 ca u79 (fun _ => 0)) := hD1
  obtain ⟨hP, hD⟩ := va_join (wr := ([(h0, .inr (6, [.ref (u13 0), .ref (u27 0), .ref (u38 0), .ref (u49 0), .ref q57, .ref (u68 0), .null, .null, .null, .int 0]))]) ++ (W_X5 ca u13 6 240 40 f13 (fun _ => 0)) ++ (W_X5 ca u27 4 320 80 f27 (fun _ => 0)) ++ (W_X1 ca u38 (fun _ => 0) (fun _ => 0) (fun _ => 0) (fun _ => 0) (fun _ => 0) (fun _ => 0) (fun _ => 0) 0 0 0) ++ (W_X1 ca u49 (fun _ => 0) (fun _ => 0) (fun _ => 0) (fun _ => 0) (fun _ => 0) (fun _ => 0) (fun _ => 0) 0 0 0) ++ (W_K ca q57 (fun _ => none)) ++ (W_X2 ca u68 (fun _ => 0) (fun _ => 0) (fun _ => 0))) (w1 := W_X0 ca u79 (fun _ => 0)) hP hD [28] [0, 1, 2, 3, 4, 5, 6, 7, 8, 9, 10, 11, 12, 13, 14, 15, 16, 17, 18, 19, 20, 21, 22, 23, 24, 25, 26, 27] rfl rfl (by decide) (by decide) hk1 hFc hP1 hD1
  subst hw
  clear hPc hDc hFc hP1 hD1 hk1 hz1
  generalize H1 = H at hP hS ⊢
  have hP : va_P D vwCl (([(h0, .inr (6, [.ref (u13 0), .ref (u27 0), .ref (u38 0), .ref (u49 0), .ref q57, .ref (u68 0), .null, .null, .null, .int 0]))]) ++ (W_X5 ca u13 6 240 40 f13 (fun _ => 0)) ++ (W_X5 ca u27 4 320 80 f27 (fun _ => 0)) ++ (W_X1 ca u38 (fun _ => 0) (fun _ => 0) (fun _ => 0) (fun _ => 0) (fun _ => 0) (fun _ => 0) (fun _ => 0) 0 0 0) ++ (W_X1 ca u49 (fun _ => 0) (fun _ => 0) (fun _ => 0) (fun _ => 0) (fun _ => 0) (fun _ => 0) (fun _ => 0) 0 0 0) ++ (W_K ca q57 (fun _ => none)) ++ (W_X2 ca u68 (fun _ => 0) (fun _ => 0) (fun _ => 0)) ++ (W_X0 ca u79 (fun _ => 0))) H := hP
  have hD : va_D A (([(h0, .inr (6, [.ref (u13 0), .ref (u27 0), .ref (u38 0), .ref (u49 0), .ref q57, .ref (u68 0), .null, .null, .null, .int 0]))]) ++ (W_X5 ca u13 6 240 40 f13 (fun _ => 0)) ++ (W_X5 ca u27 4 320 80 f27 (fun _ => 0)) ++ (W_X1 ca u38 (fun _ => 0) (fun _ => 0) (fun _ => 0) (fun _ => 0) (fun _ => 0) (fun _ => 0) (fun _ => 0) 0 0 0) ++ (W_X1 ca u49 (fun _ => 0) (fun _ => 0) (fun _ => 0) (fun _ => 0) (fun _ => 0) (fun _ => 0) (fun _ => 0) 0 0 0) ++ (W_K ca q57 (fun _ => none)) ++ (W_X2 ca u68 (fun _ => 0) (fun _ => 0) (fun _ => 0)) ++ (W_X0 ca u79 (fun _ => 0))) := hD
  refine W.widen (k := 29) (n := 4953) (Nat.le_of_ble_eq_true rfl) (Nat.le_of_ble_eq_true rfl) ?_
  refine va_putF (D := D) (ci := 6) (v := .ref (u79 0)) (ty := .object "IronedQuarrels$Company") (C := RX7) (T := TX7) (N := 10) hx hb hts hi_X7_init_X7 tyX7 tyX7_ok nmX7 hown hK.1 hP hD hS 0 rfl rfl 6 (by decide) (hts _ k_X7_init_22) (fun _ h9 => h9) rfl hin rfl (by decide +kernel) rfl rfl (Nat.le_of_ble_eq_true rfl) dX7_init_82 (fun H locs hP hD hS => ?_)
  have hP : va_P D vwCl (([(h0, .inr (6, [.ref (u13 0), .ref (u27 0), .ref (u38 0), .ref (u49 0), .ref q57, .ref (u68 0), .ref (u79 0), .null, .null, .int 0]))]) ++ (W_X5 ca u13 6 240 40 f13 (fun _ => 0)) ++ (W_X5 ca u27 4 320 80 f27 (fun _ => 0)) ++ (W_X1 ca u38 (fun _ => 0) (fun _ => 0) (fun _ => 0) (fun _ => 0) (fun _ => 0) (fun _ => 0) (fun _ => 0) 0 0 0) ++ (W_X1 ca u49 (fun _ => 0) (fun _ => 0) (fun _ => 0) (fun _ => 0) (fun _ => 0) (fun _ => 0) (fun _ => 0) 0 0 0) ++ (W_K ca q57 (fun _ => none)) ++ (W_X2 ca u68 (fun _ => 0) (fun _ => 0) (fun _ => 0)) ++ (W_X0 ca u79 (fun _ => 0))) H := hP
  have hD : va_D A (([(h0, .inr (6, [.ref (u13 0), .ref (u27 0), .ref (u38 0), .ref (u49 0), .ref q57, .ref (u68 0), .ref (u79 0), .null, .null, .int 0]))]) ++ (W_X5 ca u13 6 240 40 f13 (fun _ => 0)) ++ (W_X5 ca u27 4 320 80 f27 (fun _ => 0)) ++ (W_X1 ca u38 (fun _ => 0) (fun _ => 0) (fun _ => 0) (fun _ => 0) (fun _ => 0) (fun _ => 0) (fun _ => 0) 0 0 0) ++ (W_X1 ca u49 (fun _ => 0) (fun _ => 0) (fun _ => 0) (fun _ => 0) (fun _ => 0) (fun _ => 0) (fun _ => 0) 0 0 0) ++ (W_K ca q57 (fun _ => none)) ++ (W_X2 ca u68 (fun _ => 0) (fun _ => 0) (fun _ => 0)) ++ (W_X0 ca u79 (fun _ => 0))) := hD
  refine lv_aload_n hx hb dX7_init_85 rfl (lv_at hl 0 rfl) ?_
  refine va_new (ci := 3) (fs := [.long 0, .long 0]) (C := RX4) (T := TX4) (N := 2) hx hb hts hi_X7_init_X4 tyX4 tyX4_ok hown (hts _ k_X7_init_23) (hts _ k_X7_init_24) (hts _ k_X7_init_25) hK.1 hP hD hS hA rfl (fun j hj => by rcases (show j = 0 ∨ j = 1 by omega) with rfl | rfl <;> rfl) (Nat.le_of_ble_eq_true rfl) (Nat.le_of_ble_eq_true rfl) dX7_init_86 (fun q86 H hP hD hS => ?_)
  have hP : va_P D vwCl (([(h0, .inr (6, [.ref (u13 0), .ref (u27 0), .ref (u38 0), .ref (u49 0), .ref q57, .ref (u68 0), .ref (u79 0), .null, .null, .int 0]))]) ++ (W_X5 ca u13 6 240 40 f13 (fun _ => 0)) ++ (W_X5 ca u27 4 320 80 f27 (fun _ => 0)) ++ (W_X1 ca u38 (fun _ => 0) (fun _ => 0) (fun _ => 0) (fun _ => 0) (fun _ => 0) (fun _ => 0) (fun _ => 0) 0 0 0) ++ (W_X1 ca u49 (fun _ => 0) (fun _ => 0) (fun _ => 0) (fun _ => 0) (fun _ => 0) (fun _ => 0) (fun _ => 0) 0 0 0) ++ (W_K ca q57 (fun _ => none)) ++ (W_X2 ca u68 (fun _ => 0) (fun _ => 0) (fun _ => 0)) ++ (W_X0 ca u79 (fun _ => 0)) ++ ([(q86, .inr (3, [.long 0, .long 0]))])) H := hP
  have hD : va_D A (([(h0, .inr (6, [.ref (u13 0), .ref (u27 0), .ref (u38 0), .ref (u49 0), .ref q57, .ref (u68 0), .ref (u79 0), .null, .null, .int 0]))]) ++ (W_X5 ca u13 6 240 40 f13 (fun _ => 0)) ++ (W_X5 ca u27 4 320 80 f27 (fun _ => 0)) ++ (W_X1 ca u38 (fun _ => 0) (fun _ => 0) (fun _ => 0) (fun _ => 0) (fun _ => 0) (fun _ => 0) (fun _ => 0) 0 0 0) ++ (W_X1 ca u49 (fun _ => 0) (fun _ => 0) (fun _ => 0) (fun _ => 0) (fun _ => 0) (fun _ => 0) (fun _ => 0) 0 0 0) ++ (W_K ca q57 (fun _ => none)) ++ (W_X2 ca u68 (fun _ => 0) (fun _ => 0) (fun _ => 0)) ++ (W_X0 ca u79 (fun _ => 0)) ++ ([(q86, .inr (3, [.long 0, .long 0]))])) := hD
  refine W.widen (k := 30) (n := 4955) (Nat.le_of_ble_eq_true rfl) (Nat.le_of_ble_eq_true rfl) ?_
  refine lv_dup hx hb dX7_init_89 rfl ?_
  have hPc := hP.sub (ws' := [(q86, .inr (3, [.long 0, .long 0]))]) [30] rfl
  have hDc := hD.sub (ws' := [(q86, .inr (3, [.long 0, .long 0]))]) [30] (by decide) rfl
  have hFc := va_free (wc := [(q86, .inr (3, [.long 0, .long 0]))]) hD hS hA [30] rfl
  refine va_callv (va_runIN (As := []) (rest := [.ref q86, .ref h0]) ⟨hx, hb, hml, hown, hts⟩ (c_X4_init l D ca q86 H.size) ⟨va_cnB 0 hts gX7_init_X4_init_n51 rfl rfl rfl (hK.2 (RX7, 51, yX4_init, "IronedQuarrels") (List.mem_of_getElem? (i := 3) rfl)) (hts _ k_X7_init_25) (by decide +kernel) ⟨Nat.le_of_ble_eq_true rfl, Nat.le_of_ble_eq_true rfl⟩, rfl, (hts _ k_X7_init_67)⟩ (PcI.preS eT.moved trivial hK hPc hDc.any) rfl rfl hl.1 rfl (lv_room (Nat.le_of_ble_eq_true rfl)) dX7_init_90 ⟨Nat.le_of_ble_eq_true rfl, Nat.le_of_ble_eq_true rfl⟩) hS (fun q _ h => hFc q h) hFc (fun zu t H1 locs ht hvm hw hB hz1 hk1 hS => ?_)
  obtain ⟨u90, rfl⟩ : ∃ zz, zz = zu := ⟨zu, rfl⟩
  obtain ⟨hP1, hD1⟩ := hB
  rw [ht] at hP1
  try dsimp only at hw
  have hP1 : va_P D vwCl (W_X4 ca u90 0 1) H1 := hP1
  have hD1 : va_D (va_A ([(q86, .inr (3, [.long 0, .long 0]))]) H.size) (W_X4 ca u90 0 1) := hD1
  obtain ⟨hP, hD⟩ := va_join (wr := ([(h0, .inr (6, [.ref (u13 0), .ref (u27 0), .ref (u38 0), .ref (u49 0), .ref q57, .ref (u68 0), .ref (u79 0), .null, .null, .int 0]))]) ++ (W_X5 ca u13 6 240 40 f13 (fun _ => 0)) ++ (W_X5 ca u27 4 320 80 f27 (fun _ => 0)) ++ (W_X1 ca u38 (fun _ => 0) (fun _ => 0) (fun _ => 0) (fun _ => 0) (fun _ => 0) (fun _ => 0) (fun _ => 0) 0 0 0) ++ (W_X1 ca u49 (fun _ => 0) (fun _ => 0) (fun _ => 0) (fun _ => 0) (fun _ => 0) (fun _ => 0) (fun _ => 0) 0 0 0) ++ (W_K ca q57 (fun _ => none)) ++ (W_X2 ca u68 (fun _ => 0) (fun _ => 0) (fun _ => 0)) ++ (W_X0 ca u79 (fun _ => 0))) (w1 := W_X4 ca u90 0 1) hP hD [30] [0, 1, 2, 3, 4, 5, 6, 7, 8, 9, 10, 11, 12, 13, 14, 15, 16, 17, 18, 19, 20, 21, 22, 23, 24, 25, 26, 27, 28, 29] rfl rfl (by decide) (by decide) hk1 hFc hP1 hD1
  subst hw
  clear hPc hDc hFc hP1 hD1 hk1 hz1
  generalize H1 = H at hP hS ⊢
  have hP : va_P D vwCl (([(h0, .inr (6, [.ref (u13 0), .ref (u27 0), .ref (u38 0), .ref (u49 0), .ref q57, .ref (u68 0), .ref (u79 0), .null, .null, .int 0]))]) ++ (W_X5 ca u13 6 240 40 f13 (fun _ => 0)) ++ (W_X5 ca u27 4 320 80 f27 (fun _ => 0)) ++ (W_X1 ca u38 (fun _ => 0) (fun _ => 0) (fun _ => 0) (fun _ => 0) (fun _ => 0) (fun _ => 0) (fun _ => 0) 0 0 0) ++ (W_X1 ca u49 (fun _ => 0) (fun _ => 0) (fun _ => 0) (fun _ => 0) (fun _ => 0) (fun _ => 0) (fun _ => 0) 0 0 0) ++ (W_K ca q57 (fun _ => none)) ++ (W_X2 ca u68 (fun _ => 0) (fun _ => 0) (fun _ => 0)) ++ (W_X0 ca u79 (fun _ => 0)) ++ (W_X4 ca u90 0 1)) H := hP
  have hD : va_D A (([(h0, .inr (6, [.ref (u13 0), .ref (u27 0), .ref (u38 0), .ref (u49 0), .ref q57, .ref (u68 0), .ref (u79 0), .null, .null, .int 0]))]) ++ (W_X5 ca u13 6 240 40 f13 (fun _ => 0)) ++ (W_X5 ca u27 4 320 80 f27 (fun _ => 0)) ++ (W_X1 ca u38 (fun _ => 0) (fun _ => 0) (fun _ => 0) (fun _ => 0) (fun _ => 0) (fun _ => 0) (fun _ => 0) 0 0 0) ++ (W_X1 ca u49 (fun _ => 0) (fun _ => 0) (fun _ => 0) (fun _ => 0) (fun _ => 0) (fun _ => 0) (fun _ => 0) 0 0 0) ++ (W_K ca q57 (fun _ => none)) ++ (W_X2 ca u68 (fun _ => 0) (fun _ => 0) (fun _ => 0)) ++ (W_X0 ca u79 (fun _ => 0)) ++ (W_X4 ca u90 0 1)) := hD
  refine W.widen (k := 30) (n := 4955) (Nat.le_of_ble_eq_true rfl) (Nat.le_of_ble_eq_true rfl) ?_
  refine va_putF (D := D) (ci := 6) (v := .ref (u90 0)) (ty := .object "IronedQuarrels$Share") (C := RX7) (T := TX7) (N := 10) hx hb hts hi_X7_init_X7 tyX7 tyX7_ok nmX7 hown hK.1 hP hD hS 0 rfl rfl 7 (by decide) (hts _ k_X7_init_26) (fun _ h9 => h9) rfl hin rfl (by decide +kernel) rfl rfl (Nat.le_of_ble_eq_true rfl) dX7_init_93 (fun H locs hP hD hS => ?_)
  have hP : va_P D vwCl (([(h0, .inr (6, [.ref (u13 0), .ref (u27 0), .ref (u38 0), .ref (u49 0), .ref q57, .ref (u68 0), .ref (u79 0), .ref (u90 0), .null, .int 0]))]) ++ (W_X5 ca u13 6 240 40 f13 (fun _ => 0)) ++ (W_X5 ca u27 4 320 80 f27 (fun _ => 0)) ++ (W_X1 ca u38 (fun _ => 0) (fun _ => 0) (fun _ => 0) (fun _ => 0) (fun _ => 0) (fun _ => 0) (fun _ => 0) 0 0 0) ++ (W_X1 ca u49 (fun _ => 0) (fun _ => 0) (fun _ => 0) (fun _ => 0) (fun _ => 0) (fun _ => 0) (fun _ => 0) 0 0 0) ++ (W_K ca q57 (fun _ => none)) ++ (W_X2 ca u68 (fun _ => 0) (fun _ => 0) (fun _ => 0)) ++ (W_X0 ca u79 (fun _ => 0)) ++ (W_X4 ca u90 0 1)) H := hP
  have hD : va_D A (([(h0, .inr (6, [.ref (u13 0), .ref (u27 0), .ref (u38 0), .ref (u49 0), .ref q57, .ref (u68 0), .ref (u79 0), .ref (u90 0), .null, .int 0]))]) ++ (W_X5 ca u13 6 240 40 f13 (fun _ => 0)) ++ (W_X5 ca u27 4 320 80 f27 (fun _ => 0)) ++ (W_X1 ca u38 (fun _ => 0) (fun _ => 0) (fun _ => 0) (fun _ => 0) (fun _ => 0) (fun _ => 0) (fun _ => 0) 0 0 0) ++ (W_X1 ca u49 (fun _ => 0) (fun _ => 0) (fun _ => 0) (fun _ => 0) (fun _ => 0) (fun _ => 0) (fun _ => 0) 0 0 0) ++ (W_K ca q57 (fun _ => none)) ++ (W_X2 ca u68 (fun _ => 0) (fun _ => 0) (fun _ => 0)) ++ (W_X0 ca u79 (fun _ => 0)) ++ (W_X4 ca u90 0 1)) := hD
  refine lv_aload_n hx hb dX7_init_96 rfl (lv_at hl 0 rfl) ?_
  refine va_new (ci := 5) (fs := [.null, .int 0]) (C := RX6) (T := TX6) (N := 2) hx hb hts hi_X7_init_X6 tyX6 tyX6_ok hown (hts _ k_X7_init_27) (hts _ k_X7_init_28) (hts _ k_X7_init_29) hK.1 hP hD hS hA rfl (fun j hj => by rcases (show j = 0 ∨ j = 1 by omega) with rfl | rfl <;> rfl) (Nat.le_of_ble_eq_true rfl) (Nat.le_of_ble_eq_true rfl) dX7_init_97 (fun q97 H hP hD hS => ?_)
  have hP : va_P D vwCl (([(h0, .inr (6, [.ref (u13 0), .ref (u27 0), .ref (u38 0), .ref (u49 0), .ref q57, .ref (u68 0), .ref (u79 0), .ref (u90 0), .null, .int 0]))]) ++ (W_X5 ca u13 6 240 40 f13 (fun _ => 0)) ++ (W_X5 ca u27 4 320 80 f27 (fun _ => 0)) ++ (W_X1 ca u38 (fun _ => 0) (fun _ => 0) (fun _ => 0) (fun _ => 0) (fun _ => 0) (fun _ => 0) (fun _ => 0) 0 0 0) ++ (W_X1 ca u49 (fun _ => 0) (fun _ => 0) (fun _ => 0) (fun _ => 0) (fun _ => 0) (fun _ => 0) (fun _ => 0) 0 0 0) ++ (W_K ca q57 (fun _ => none)) ++ (W_X2 ca u68 (fun _ => 0) (fun _ => 0) (fun _ => 0)) ++ (W_X0 ca u79 (fun _ => 0)) ++ (W_X4 ca u90 0 1) ++ ([(q97, .inr (5, [.null, .int 0]))])) H := hP
  have hD : va_D A (([(h0, .inr (6, [.ref (u13 0), .ref (u27 0), .ref (u38 0), .ref (u49 0), .ref q57, .ref (u68 0), .ref (u79 0), .ref (u90 0), .null, .int 0]))]) ++ (W_X5 ca u13 6 240 40 f13 (fun _ => 0)) ++ (W_X5 ca u27 4 320 80 f27 (fun _ => 0)) ++ (W_X1 ca u38 (fun _ => 0) (fun _ => 0) (fun _ => 0) (fun _ => 0) (fun _ => 0) (fun _ => 0) (fun _ => 0) 0 0 0) ++ (W_X1 ca u49 (fun _ => 0) (fun _ => 0) (fun _ => 0) (fun _ => 0) (fun _ => 0) (fun _ => 0) (fun _ => 0) 0 0 0) ++ (W_K ca q57 (fun _ => none)) ++ (W_X2 ca u68 (fun _ => 0) (fun _ => 0) (fun _ => 0)) ++ (W_X0 ca u79 (fun _ => 0)) ++ (W_X4 ca u90 0 1) ++ ([(q97, .inr (5, [.null, .int 0]))])) := hD
  refine W.widen (k := 31) (n := 4957) (Nat.le_of_ble_eq_true rfl) (Nat.le_of_ble_eq_true rfl) ?_
  refine lv_dup hx hb dX7_init_100 rfl ?_
  have hPc := hP.sub (ws' := [(q97, .inr (5, [.null, .int 0]))]) [31] rfl
  have hDc := hD.sub (ws' := [(q97, .inr (5, [.null, .int 0]))]) [31] (by decide) rfl
  have hFc := va_free (wc := [(q97, .inr (5, [.null, .int 0]))]) hD hS hA [31] rfl
  refine va_callv (va_runIN (As := []) (rest := [.ref q97, .ref h0]) ⟨hx, hb, hml, hown, hts⟩ (c_X6_init l D ca q97 H.size) ⟨va_cnB 0 hts gX7_init_X6_init_n58 rfl rfl rfl (hK.2 (RX7, 58, yX6_init, "IronedQuarrels") (List.mem_of_getElem? (i := 4) rfl)) (hts _ k_X7_init_29) (by decide +kernel) ⟨Nat.le_of_ble_eq_true rfl, Nat.le_of_ble_eq_true rfl⟩, rfl, (hts _ k_X7_init_72)⟩ (PcI.preS eT.moved trivial hK hPc hDc.any) rfl rfl hl.1 rfl (lv_room (Nat.le_of_ble_eq_true rfl)) dX7_init_101 ⟨Nat.le_of_ble_eq_true rfl, Nat.le_of_ble_eq_true rfl⟩) hS (fun q _ h => hFc q h) hFc (fun zu t H1 locs ht hvm hw hB hz1 hk1 hS => ?_)
  obtain ⟨u101, rfl⟩ : ∃ zz, zz = zu := ⟨zu, rfl⟩
  obtain ⟨hP1, hD1⟩ := hB
  rw [ht] at hP1
  try dsimp only at hw
  have hP1 : va_P D vwCl (W_X6 ca u101 (fun _ => 0) 0) H1 := hP1
  have hD1 : va_D (va_A ([(q97, .inr (5, [.null, .int 0]))]) H.size) (W_X6 ca u101 (fun _ => 0) 0) := hD1
  obtain ⟨hP, hD⟩ := va_join (wr := ([(h0, .inr (6, [.ref (u13 0), .ref (u27 0), .ref (u38 0), .ref (u49 0), .ref q57, .ref (u68 0), .ref (u79 0), .ref (u90 0), .null, .int 0]))]) ++ (W_X5 ca u13 6 240 40 f13 (fun _ => 0)) ++ (W_X5 ca u27 4 320 80 f27 (fun _ => 0)) ++ (W_X1 ca u38 (fun _ => 0) (fun _ => 0) (fun _ => 0) (fun _ => 0) (fun _ => 0) (fun _ => 0) (fun _ => 0) 0 0 0) ++ (W_X1 ca u49 (fun _ => 0) (fun _ => 0) (fun _ => 0) (fun _ => 0) (fun _ => 0) (fun _ => 0) (fun _ => 0) 0 0 0) ++ (W_K ca q57 (fun _ => none)) ++ (W_X2 ca u68 (fun _ => 0) (fun _ => 0) (fun _ => 0)) ++ (W_X0 ca u79 (fun _ => 0)) ++ (W_X4 ca u90 0 1)) (w1 := W_X6 ca u101 (fun _ => 0) 0) hP hD [31] [0, 1, 2, 3, 4, 5, 6, 7, 8, 9, 10, 11, 12, 13, 14, 15, 16, 17, 18, 19, 20, 21, 22, 23, 24, 25, 26, 27, 28, 29, 30] rfl rfl (by decide) (by decide) hk1 hFc hP1 hD1
  subst hw
  clear hPc hDc hFc hP1 hD1 hk1 hz1
  generalize H1 = H at hP hS ⊢
  have hP : va_P D vwCl (([(h0, .inr (6, [.ref (u13 0), .ref (u27 0), .ref (u38 0), .ref (u49 0), .ref q57, .ref (u68 0), .ref (u79 0), .ref (u90 0), .null, .int 0]))]) ++ (W_X5 ca u13 6 240 40 f13 (fun _ => 0)) ++ (W_X5 ca u27 4 320 80 f27 (fun _ => 0)) ++ (W_X1 ca u38 (fun _ => 0) (fun _ => 0) (fun _ => 0) (fun _ => 0) (fun _ => 0) (fun _ => 0) (fun _ => 0) 0 0 0) ++ (W_X1 ca u49 (fun _ => 0) (fun _ => 0) (fun _ => 0) (fun _ => 0) (fun _ => 0) (fun _ => 0) (fun _ => 0) 0 0 0) ++ (W_K ca q57 (fun _ => none)) ++ (W_X2 ca u68 (fun _ => 0) (fun _ => 0) (fun _ => 0)) ++ (W_X0 ca u79 (fun _ => 0)) ++ (W_X4 ca u90 0 1) ++ (W_X6 ca u101 (fun _ => 0) 0)) H := hP
  have hD : va_D A (([(h0, .inr (6, [.ref (u13 0), .ref (u27 0), .ref (u38 0), .ref (u49 0), .ref q57, .ref (u68 0), .ref (u79 0), .ref (u90 0), .null, .int 0]))]) ++ (W_X5 ca u13 6 240 40 f13 (fun _ => 0)) ++ (W_X5 ca u27 4 320 80 f27 (fun _ => 0)) ++ (W_X1 ca u38 (fun _ => 0) (fun _ => 0) (fun _ => 0) (fun _ => 0) (fun _ => 0) (fun _ => 0) (fun _ => 0) 0 0 0) ++ (W_X1 ca u49 (fun _ => 0) (fun _ => 0) (fun _ => 0) (fun _ => 0) (fun _ => 0) (fun _ => 0) (fun _ => 0) 0 0 0) ++ (W_K ca q57 (fun _ => none)) ++ (W_X2 ca u68 (fun _ => 0) (fun _ => 0) (fun _ => 0)) ++ (W_X0 ca u79 (fun _ => 0)) ++ (W_X4 ca u90 0 1) ++ (W_X6 ca u101 (fun _ => 0) 0)) := hD
  refine W.widen (k := 32) (n := 4963) (Nat.le_of_ble_eq_true rfl) (Nat.le_of_ble_eq_true rfl) ?_
  refine va_putF (D := D) (ci := 6) (v := .ref (u101 0)) (ty := .object "IronedQuarrels$Tally") (C := RX7) (T := TX7) (N := 10) hx hb hts hi_X7_init_X7 tyX7 tyX7_ok nmX7 hown hK.1 hP hD hS 0 rfl rfl 8 (by decide) (hts _ k_X7_init_30) (fun _ h9 => h9) rfl hin rfl (by decide +kernel) rfl rfl (Nat.le_of_ble_eq_true rfl) dX7_init_104 (fun H locs hP hD hS => ?_)
  have hP : va_P D vwCl (([(h0, .inr (6, [.ref (u13 0), .ref (u27 0), .ref (u38 0), .ref (u49 0), .ref q57, .ref (u68 0), .ref (u79 0), .ref (u90 0), .ref (u101 0), .int 0]))]) ++ (W_X5 ca u13 6 240 40 f13 (fun _ => 0)) ++ (W_X5 ca u27 4 320 80 f27 (fun _ => 0)) ++ (W_X1 ca u38 (fun _ => 0) (fun _ => 0) (fun _ => 0) (fun _ => 0) (fun _ => 0) (fun _ => 0) (fun _ => 0) 0 0 0) ++ (W_X1 ca u49 (fun _ => 0) (fun _ => 0) (fun _ => 0) (fun _ => 0) (fun _ => 0) (fun _ => 0) (fun _ => 0) 0 0 0) ++ (W_K ca q57 (fun _ => none)) ++ (W_X2 ca u68 (fun _ => 0) (fun _ => 0) (fun _ => 0)) ++ (W_X0 ca u79 (fun _ => 0)) ++ (W_X4 ca u90 0 1) ++ (W_X6 ca u101 (fun _ => 0) 0)) H := hP
  have hD : va_D A (([(h0, .inr (6, [.ref (u13 0), .ref (u27 0), .ref (u38 0), .ref (u49 0), .ref q57, .ref (u68 0), .ref (u79 0), .ref (u90 0), .ref (u101 0), .int 0]))]) ++ (W_X5 ca u13 6 240 40 f13 (fun _ => 0)) ++ (W_X5 ca u27 4 320 80 f27 (fun _ => 0)) ++ (W_X1 ca u38 (fun _ => 0) (fun _ => 0) (fun _ => 0) (fun _ => 0) (fun _ => 0) (fun _ => 0) (fun _ => 0) 0 0 0) ++ (W_X1 ca u49 (fun _ => 0) (fun _ => 0) (fun _ => 0) (fun _ => 0) (fun _ => 0) (fun _ => 0) (fun _ => 0) 0 0 0) ++ (W_K ca q57 (fun _ => none)) ++ (W_X2 ca u68 (fun _ => 0) (fun _ => 0) (fun _ => 0)) ++ (W_X0 ca u79 (fun _ => 0)) ++ (W_X4 ca u90 0 1) ++ (W_X6 ca u101 (fun _ => 0) 0)) := hD
  refine lv_aload_n hx hb dX7_init_107 rfl (lv_at hl 0 rfl) ?_
  refine lv_iconst (v := (0)) hx hb dX7_init_108 (by decide) ?_
  refine va_put (D := D) (ci := 6) (v := .int 0) (ty := .int) (C := RX7) (T := TX7) (N := 10) hx hb hts hi_X7_init_X7 tyX7 tyX7_ok nmX7 hown hK.1 hP hD hS 0 rfl rfl 9 (by decide) (hts _ k_X7_init_31) (fun _ h9 => h9) rfl (by decide +kernel) rfl rfl (Nat.le_of_ble_eq_true rfl) dX7_init_109 (fun H locs hP hD hS => ?_)
  have hP : va_P D vwCl (([(h0, .inr (6, [.ref (u13 0), .ref (u27 0), .ref (u38 0), .ref (u49 0), .ref q57, .ref (u68 0), .ref (u79 0), .ref (u90 0), .ref (u101 0), .int 0]))]) ++ (W_X5 ca u13 6 240 40 f13 (fun _ => 0)) ++ (W_X5 ca u27 4 320 80 f27 (fun _ => 0)) ++ (W_X1 ca u38 (fun _ => 0) (fun _ => 0) (fun _ => 0) (fun _ => 0) (fun _ => 0) (fun _ => 0) (fun _ => 0) 0 0 0) ++ (W_X1 ca u49 (fun _ => 0) (fun _ => 0) (fun _ => 0) (fun _ => 0) (fun _ => 0) (fun _ => 0) (fun _ => 0) 0 0 0) ++ (W_K ca q57 (fun _ => none)) ++ (W_X2 ca u68 (fun _ => 0) (fun _ => 0) (fun _ => 0)) ++ (W_X0 ca u79 (fun _ => 0)) ++ (W_X4 ca u90 0 1) ++ (W_X6 ca u101 (fun _ => 0) 0)) H := hP
  have hD : va_D A (([(h0, .inr (6, [.ref (u13 0), .ref (u27 0), .ref (u38 0), .ref (u49 0), .ref q57, .ref (u68 0), .ref (u79 0), .ref (u90 0), .ref (u101 0), .int 0]))]) ++ (W_X5 ca u13 6 240 40 f13 (fun _ => 0)) ++ (W_X5 ca u27 4 320 80 f27 (fun _ => 0)) ++ (W_X1 ca u38 (fun _ => 0) (fun _ => 0) (fun _ => 0) (fun _ => 0) (fun _ => 0) (fun _ => 0) (fun _ => 0) 0 0 0) ++ (W_X1 ca u49 (fun _ => 0) (fun _ => 0) (fun _ => 0) (fun _ => 0) (fun _ => 0) (fun _ => 0) (fun _ => 0) 0 0 0) ++ (W_K ca q57 (fun _ => none)) ++ (W_X2 ca u68 (fun _ => 0) (fun _ => 0) (fun _ => 0)) ++ (W_X0 ca u79 (fun _ => 0)) ++ (W_X4 ca u90 0 1) ++ (W_X6 ca u101 (fun _ => 0) 0)) := hD
  exact W.vret hx hb hr (fun zt ht hW => ⟨⟨((fun _ => h0), u13, u27, u38, u49, q57, u68, u79, u90, u101, f13, f27), rfl, ⟨rfl, hf13, hf27⟩, by rw [ht]; exact hP, hD⟩, hS.F ht⟩) hS.2.2 dX7_init_112
def rm_X8_init : Room := { frames := 1, cells := 12, slots := 9352, locals := 12 }
theorem k_X8_init_1 : Cond.methodLink RX8 1 objectInit ∈ wsX8_init := List.mem_of_getElem? (i := 1) (by decide +kernel)
theorem k_X8_init_2 : Cond.instanceMethod objectInit ∈ wsX8_init := List.mem_of_getElem? (i := 2) (by decide +kernel)
theorem k_X8_init_3 : Cond.code objectInit ⟨#[0xb1]⟩ 1 none ∈ wsX8_init := List.mem_of_getElem? (i := 3) (by decide +kernel)
theorem k_X8_init_4 : Cond.arrayClass .int ∈ wsX8_init := List.mem_of_getElem? (i := 4) (by decide +kernel)
theorem k_X8_init_5 : Cond.fieldLink RX8 7 "IronedQuarrelsModel" "rowSizes" "[I" ∈ wsX8_init := List.mem_of_getElem? (i := 5) (by decide +kernel)
theorem k_X8_init_6 : Cond.fieldLink RX8 13 "IronedQuarrelsModel" "rows" "[I" ∈ wsX8_init := List.mem_of_getElem? (i := 6) (by decide +kernel)
theorem k_X8_init_7 : Cond.fieldLink RX8 16 "IronedQuarrelsModel" "textSizes" "[I" ∈ wsX8_init := List.mem_of_getElem? (i := 7) (by decide +kernel)
theorem k_X8_init_8 : Cond.fieldLink RX8 19 "IronedQuarrelsModel" "texts" "[I" ∈ wsX8_init := List.mem_of_getElem? (i := 8) (by decide +kernel)
theorem k_X8_init_9 : Cond.fieldLink RX8 22 "IronedQuarrelsModel" "now" "[I" ∈ wsX8_init := List.mem_of_getElem? (i := 9) (by decide +kernel)
theorem k_X8_init_10 : Cond.fieldLink RX8 25 "IronedQuarrelsModel" "keeps" "[I" ∈ wsX8_init := List.mem_of_getElem? (i := 10) (by decide +kernel)
theorem k_X8_init_11 : Cond.arrayClass .boolean ∈ wsX8_init := List.mem_of_getElem? (i := 11) (by decide +kernel)
theorem k_X8_init_12 : Cond.fieldLink RX8 28 "IronedQuarrelsModel" "kept" "[Z" ∈ wsX8_init := List.mem_of_getElem? (i := 12) (by decide +kernel)
theorem k_X8_init_13 : Cond.fieldLink RX8 32 "IronedQuarrelsModel" "lower" "J" ∈ wsX8_init := List.mem_of_getElem? (i := 13) (by decide +kernel)
theorem k_X8_init_14 : Cond.fieldLink RX8 36 "IronedQuarrelsModel" "findings" "[I" ∈ wsX8_init := List.mem_of_getElem? (i := 14) (by decide +kernel)
theorem k_X8_init_15 : Cond.fieldLink RX8 39 "IronedQuarrelsModel" "read" "[I" ∈ wsX8_init := List.mem_of_getElem? (i := 15) (by decide +kernel)
theorem k_X8_init_16 : Cond.fieldLink RX8 42 "IronedQuarrelsModel" "costs" "[I" ∈ wsX8_init := List.mem_of_getElem? (i := 16) (by decide +kernel)
theorem k_X8_init_17 : Cond.arrayClass .long ∈ wsX8_init := List.mem_of_getElem? (i := 17) (by decide +kernel)
theorem k_X8_init_18 : Cond.fieldLink RX8 45 "IronedQuarrelsModel" "ways" "[J" ∈ wsX8_init := List.mem_of_getElem? (i := 18) (by decide +kernel)
theorem k_X8_init_19 : Cond.fieldLink RX8 49 "IronedQuarrelsModel" "reach" "[I" ∈ wsX8_init := List.mem_of_getElem? (i := 19) (by decide +kernel)
theorem hi_X8_init_X8 : ∀ w ∈ wsX80, w ∈ wsX8_init := fun w h => List.mem_cons_of_mem _ (List.mem_append_right _ h)
def po_X8_init (h0 : Nat) : ((Nat → Nat) × (Nat → Int32) × (Nat → Int32)) → Prop := fun zs => match zs with | (a, f, g) => a 0 = h0 ∧ (∀ j, j < 6 → f j = -1) ∧ (∀ j, j < 4 → g j = -1)
def wd_X8_init (ca : Nat → ClassId) : ((Nat → Nat) × (Nat → Int32) × (Nat → Int32)) → va_W := fun zs => match zs with | (a, f, g) => W_X8 ca a f (fun _ => 0) g (fun _ => 0) (fun _ => 0) (fun _ => 0) (fun _ => 0) 0 0 1 0 (fun _ => 0) (fun _ => 0) 0 (fun _ => 0) (fun _ => 0) (fun _ => 0)
set_option maxHeartbeats 8000000 in
set_option maxRecDepth 100000 in
theorem c_X8_init (l : Launch) (D : va_G) (ca : Nat → ClassId) (h0 sz : Nat) : Met l yX8_init wsX8_init rm_X8_init (PcI eT D ca sz [.ref h0] ([(h0, .inr (7, [.null, .null, .null, .null, .null, .null, .null, .int 0, .long 0, .long 0, .int 0, .null, .null, .int 0, .null, .null, .null]))])) (va_Qv (S := (Nat → Nat) × (Nat → Int32) × (Nat → Int32)) (po_X8_init h0) (fun zs zt => va_P D vwCl (wd_X8_init ca zs) zt.heap ∧ va_D (va_A ([(h0, .inr (7, [.null, .null, .null, .null, .null, .null, .null, .int 0, .long 0, .long 0, .int 0, .null, .null, .int 0, .null, .null, .null]))]) sz) (wd_X8_init ca zs)) (va_A ([(h0, .inr (7, [.null, .null, .null, .null, .null, .null, .null, .int 0, .long 0, .long 0, .int 0, .null, .null, .int 0, .null, .null, .null]))]) sz)) 12 9352 (va_A ([(h0, .inr (7, [.null, .null, .null, .null, .null, .null, .null, .int 0, .long 0, .long 0, .int 0, .null, .null, .int 0, .null, .null, .null]))]) sz) := by
  refine Met.ofW (cc := cX8_init) (maxL := 2) (ret := none) (by decide) rfl ?_
  intro zp ze zs zm za zb zt zc z1 B hml hv
  obtain ⟨rfl, hsz, hP, hK, hD0, hE⟩ := hv
  have hx := B.exec
  have hb := B.bytes
  have hr := B.returns
  have hts := atoms_spec (ws := wsX8_init) B.pre
  have hown : zs.vm.findClass RX8 = some zm.cls := findClass_of_methodNamed B.named
  have hlocks := B.notSynchronized
  have hin : zt.name = "<init>" := (name_of_methodNamed B.named B.method).1
  subst hsz
  have hD := hD0.self (sz := zs.heap.size)
  generalize hAe : va_A ([(h0, .inr (7, [.null, .null, .null, .null, .null, .null, .null, .int 0, .long 0, .long 0, .int 0, .null, .null, .int 0, .null, .null, .null]))]) zs.heap.size = A at hD ⊢
  have hA : ∀ q : Nat, zs.heap.size ≤ q → A q := fun q h => by rw [← hAe]; exact Or.inr h
  have hS : va_S A zs.heap zs.heap [] := va_S.rf
  have hl := lv_entry ([.ref h0]) (n := 2) (Nat.le_of_ble_eq_true rfl)
  rw [lg_entry_eq]
  generalize (lg_sl ([.ref h0]) ++ List.replicate (2 - (lg_sl ([.ref h0])).length) Slot.unset).toArray = ls at hl ⊢
  replace hl : lv_has ls 2 [(0, .ref h0)] := hl
  show W zp l ze rm_X8_init zs zm ([.ref h0] : List Value).toArray zb zt zc zs.heap [] 0 0 (MQ zb (va_Qv (S := (Nat → Nat) × (Nat → Int32) × (Nat → Int32)) (po_X8_init h0) (fun zs zt => va_P D vwCl (wd_X8_init ca zs) zt.heap ∧ va_D A (wd_X8_init ca zs)) A) ([.ref h0] : List Value).toArray zs 12 9352 A) (F0 zm 0 ls [])
  refine lv_aload_n hx hb dX8_init_0 rfl (lv_at hl 0 rfl) ?_
  refine W.objInit hx hb hown (hts _ k_X8_init_1) (hts _ k_X8_init_2) (hts _ k_X8_init_3) rfl (by rw [hml]; exact hl.1) rfl dX8_init_1 (Nat.le_of_ble_eq_true rfl) (Nat.le_of_ble_eq_true rfl) ?_
  refine W.eq (g2 := F0 zm 4 ls []) rfl ?_
  refine lv_aload_n hx hb dX8_init_4 rfl (lv_at hl 0 rfl) ?_
  refine lv_bipush (v := (6)) hx hb dX8_init_5 (by decide) ?_
  refine va_newa (atype := .int) (n := 6) (N' := 6) (a0 := (6, .inl (fun _ => 0))) hx hb (hts _ k_X8_init_4) rfl hK.1 hP hD hS hA (fun _ => rfl) (by decide) (by decide) (Nat.le_of_ble_eq_true rfl) (Nat.le_of_ble_eq_true rfl) (Nat.le_of_ble_eq_true rfl) dX8_init_7 (fun q7 cA H hK1 hP hD hS => ?_)
  obtain rfl := ca_int hK1
  have hP : va_P D vwCl (([(h0, .inr (7, [.null, .null, .null, .null, .null, .null, .null, .int 0, .long 0, .long 0, .int 0, .null, .null, .int 0, .null, .null, .null]))]) ++ ([(q7, .inl (ca 0, 6, .inl (fun _ => 0)))])) H := hP
  have hD : va_D A (([(h0, .inr (7, [.null, .null, .null, .null, .null, .null, .null, .int 0, .long 0, .long 0, .int 0, .null, .null, .int 0, .null, .null, .null]))]) ++ ([(q7, .inl (ca 0, 6, .inl (fun _ => 0)))])) := hD
  refine W.widen (k := 1) (n := 6) (Nat.le_of_ble_eq_true rfl) (Nat.le_of_ble_eq_true rfl) ?_
  refine va_putF (D := D) (ci := 7) (v := .ref q7) (ty := .array .int) (C := RX8) (T := TX8) (N := 17) hx hb hts hi_X8_init_X8 tyX8 tyX8_ok nmX8 hown hK.1 hP hD hS 0 rfl rfl 0 (by decide) (hts _ k_X8_init_5) (fun _ h9 => h9) rfl hin rfl (by decide +kernel) rfl rfl (Nat.le_of_ble_eq_true rfl) dX8_init_9 (fun H locs hP hD hS => ?_)
  have hP : va_P D vwCl (([(h0, .inr (7, [.ref q7, .null, .null, .null, .null, .null, .null, .int 0, .long 0, .long 0, .int 0, .null, .null, .int 0, .null, .null, .null]))]) ++ ([(q7, .inl (ca 0, 6, .inl (fun _ => 0)))])) H := hP
  have hD : va_D A (([(h0, .inr (7, [.ref q7, .null, .null, .null, .null, .null, .null, .int 0, .long 0, .long 0, .int 0, .null, .null, .int 0, .null, .null, .null]))]) ++ ([(q7, .inl (ca 0, 6, .inl (fun _ => 0)))])) := hD
  refine lv_aload_n hx hb dX8_init_12 rfl (lv_at hl 0 rfl) ?_
  refine lv_sipush (v := (240)) hx hb dX8_init_13 (by decide) ?_
  refine va_newa (atype := .int) (n := 240) (N' := 240) (a0 := (240, .inl (fun _ => 0))) hx hb (hts _ k_X8_init_4) rfl hK.1 hP hD hS hA (fun _ => rfl) (by decide) (by decide) (Nat.le_of_ble_eq_true rfl) (Nat.le_of_ble_eq_true rfl) (Nat.le_of_ble_eq_true rfl) dX8_init_16 (fun q16 cA H hK1 hP hD hS => ?_)
  obtain rfl := ca_int hK1
  have hP : va_P D vwCl (([(h0, .inr (7, [.ref q7, .null, .null, .null, .null, .null, .null, .int 0, .long 0, .long 0, .int 0, .null, .null, .int 0, .null, .null, .null]))]) ++ ([(q7, .inl (ca 0, 6, .inl (fun _ => 0)))]) ++ ([(q16, .inl (ca 0, 240, .inl (fun _ => 0)))])) H := hP
  have hD : va_D A (([(h0, .inr (7, [.ref q7, .null, .null, .null, .null, .null, .null, .int 0, .long 0, .long 0, .int 0, .null, .null, .int 0, .null, .null, .null]))]) ++ ([(q7, .inl (ca 0, 6, .inl (fun _ => 0)))]) ++ ([(q16, .inl (ca 0, 240, .inl (fun _ => 0)))])) := hD
  refine W.widen (k := 2) (n := 246) (Nat.le_of_ble_eq_true rfl) (Nat.le_of_ble_eq_true rfl) ?_
  refine va_putF (D := D) (ci := 7) (v := .ref q16) (ty := .array .int) (C := RX8) (T := TX8) (N := 17) hx hb hts hi_X8_init_X8 tyX8 tyX8_ok nmX8 hown hK.1 hP hD hS 0 rfl rfl 1 (by decide) (hts _ k_X8_init_6) (fun _ h9 => h9) rfl hin rfl (by decide +kernel) rfl rfl (Nat.le_of_ble_eq_true rfl) dX8_init_18 (fun H locs hP hD hS => ?_)
  have hP : va_P D vwCl (([(h0, .inr (7, [.ref q7, .ref q16, .null, .null, .null, .null, .null, .int 0, .long 0, .long 0, .int 0, .null, .null, .int 0, .null, .null, .null]))]) ++ ([(q7, .inl (ca 0, 6, .inl (fun _ => 0)))]) ++ ([(q16, .inl (ca 0, 240, .inl (fun _ => 0)))])) H := hP
  have hD : va_D A (([(h0, .inr (7, [.ref q7, .ref q16, .null, .null, .null, .null, .null, .int 0, .long 0, .long 0, .int 0, .null, .null, .int 0, .null, .null, .null]))]) ++ ([(q7, .inl (ca 0, 6, .inl (fun _ => 0)))]) ++ ([(q16, .inl (ca 0, 240, .inl (fun _ => 0)))])) := hD
  refine lv_aload_n hx hb dX8_init_21 rfl (lv_at hl 0 rfl) ?_
  refine lv_iconst (v := (4)) hx hb dX8_init_22 (by decide) ?_
  refine va_newa (atype := .int) (n := 4) (N' := 4) (a0 := (4, .inl (fun _ => 0))) hx hb (hts _ k_X8_init_4) rfl hK.1 hP hD hS hA (fun _ => rfl) (by decide) (by decide) (Nat.le_of_ble_eq_true rfl) (Nat.le_of_ble_eq_true rfl) (Nat.le_of_ble_eq_true rfl) dX8_init_23 (fun q23 cA H hK1 hP hD hS => ?_)
  obtain rfl := ca_int hK1
  have hP : va_P D vwCl (([(h0, .inr (7, [.ref q7, .ref q16, .null, .null, .null, .null, .null, .int 0, .long 0, .long 0, .int 0, .null, .null, .int 0, .null, .null, .null]))]) ++ ([(q7, .inl (ca 0, 6, .inl (fun _ => 0)))]) ++ ([(q16, .inl (ca 0, 240, .inl (fun _ => 0)))]) ++ ([(q23, .inl (ca 0, 4, .inl (fun _ => 0)))])) H := hP
  have hD : va_D A (([(h0, .inr (7, [.ref q7, .ref q16, .null, .null, .null, .null, .null, .int 0, .long 0, .long 0, .int 0, .null, .null, .int 0, .null, .null, .null]))]) ++ ([(q7, .inl (ca 0, 6, .inl (fun _ => 0)))]) ++ ([(q16, .inl (ca 0, 240, .inl (fun _ => 0)))]) ++ ([(q23, .inl (ca 0, 4, .inl (fun _ => 0)))])) := hD
  refine W.widen (k := 3) (n := 250) (Nat.le_of_ble_eq_true rfl) (Nat.le_of_ble_eq_true rfl) ?_
  refine va_putF (D := D) (ci := 7) (v := .ref q23) (ty := .array .int) (C := RX8) (T := TX8) (N := 17) hx hb hts hi_X8_init_X8 tyX8 tyX8_ok nmX8 hown hK.1 hP hD hS 0 rfl rfl 2 (by decide) (hts _ k_X8_init_7) (fun _ h9 => h9) rfl hin rfl (by decide +kernel) rfl rfl (Nat.le_of_ble_eq_true rfl) dX8_init_25 (fun H locs hP hD hS => ?_)
  have hP : va_P D vwCl (([(h0, .inr (7, [.ref q7, .ref q16, .ref q23, .null, .null, .null, .null, .int 0, .long 0, .long 0, .int 0, .null, .null, .int 0, .null, .null, .null]))]) ++ ([(q7, .inl (ca 0, 6, .inl (fun _ => 0)))]) ++ ([(q16, .inl (ca 0, 240, .inl (fun _ => 0)))]) ++ ([(q23, .inl (ca 0, 4, .inl (fun _ => 0)))])) H := hP
  have hD : va_D A (([(h0, .inr (7, [.ref q7, .ref q16, .ref q23, .null, .null, .null, .null, .int 0, .long 0, .long 0, .int 0, .null, .null, .int 0, .null, .null, .null]))]) ++ ([(q7, .inl (ca 0, 6, .inl (fun _ => 0)))]) ++ ([(q16, .inl (ca 0, 240, .inl (fun _ => 0)))]) ++ ([(q23, .inl (ca 0, 4, .inl (fun _ => 0)))])) := hD
  refine lv_aload_n hx hb dX8_init_28 rfl (lv_at hl 0 rfl) ?_
  refine lv_sipush (v := (320)) hx hb dX8_init_29 (by decide) ?_
  refine va_newa (atype := .int) (n := 320) (N' := 320) (a0 := (320, .inl (fun _ => 0))) hx hb (hts _ k_X8_init_4) rfl hK.1 hP hD hS hA (fun _ => rfl) (by decide) (by decide) (Nat.le_of_ble_eq_true rfl) (Nat.le_of_ble_eq_true rfl) (Nat.le_of_ble_eq_true rfl) dX8_init_32 (fun q32 cA H hK1 hP hD hS => ?_)
  obtain rfl := ca_int hK1
  have hP : va_P D vwCl (([(h0, .inr (7, [.ref q7, .ref q16, .ref q23, .null, .null, .null, .null, .int 0, .long 0, .long 0, .int 0, .null, .null, .int 0, .null, .null, .null]))]) ++ ([(q7, .inl (ca 0, 6, .inl (fun _ => 0)))]) ++ ([(q16, .inl (ca 0, 240, .inl (fun _ => 0)))]) ++ ([(q23, .inl (ca 0, 4, .inl (fun _ => 0)))]) ++ ([(q32, .inl (ca 0, 320, .inl (fun _ => 0)))])) H := hP
  have hD : va_D A (([(h0, .inr (7, [.ref q7, .ref q16, .ref q23, .null, .null, .null, .null, .int 0, .long 0, .long 0, .int 0, .null, .null, .int 0, .null, .null, .null]))]) ++ ([(q7, .inl (ca 0, 6, .inl (fun _ => 0)))]) ++ ([(q16, .inl (ca 0, 240, .inl (fun _ => 0)))]) ++ ([(q23, .inl (ca 0, 4, .inl (fun _ => 0)))]) ++ ([(q32, .inl (ca 0, 320, .inl (fun _ => 0)))])) := hD
  refine W.widen (k := 4) (n := 570) (Nat.le_of_ble_eq_true rfl) (Nat.le_of_ble_eq_true rfl) ?_
  refine va_putF (D := D) (ci := 7) (v := .ref q32) (ty := .array .int) (C := RX8) (T := TX8) (N := 17) hx hb hts hi_X8_init_X8 tyX8 tyX8_ok nmX8 hown hK.1 hP hD hS 0 rfl rfl 3 (by decide) (hts _ k_X8_init_8) (fun _ h9 => h9) rfl hin rfl (by decide +kernel) rfl rfl (Nat.le_of_ble_eq_true rfl) dX8_init_34 (fun H locs hP hD hS => ?_)
  have hP : va_P D vwCl (([(h0, .inr (7, [.ref q7, .ref q16, .ref q23, .ref q32, .null, .null, .null, .int 0, .long 0, .long 0, .int 0, .null, .null, .int 0, .null, .null, .null]))]) ++ ([(q7, .inl (ca 0, 6, .inl (fun _ => 0)))]) ++ ([(q16, .inl (ca 0, 240, .inl (fun _ => 0)))]) ++ ([(q23, .inl (ca 0, 4, .inl (fun _ => 0)))]) ++ ([(q32, .inl (ca 0, 320, .inl (fun _ => 0)))])) H := hP
  have hD : va_D A (([(h0, .inr (7, [.ref q7, .ref q16, .ref q23, .ref q32, .null, .null, .null, .int 0, .long 0, .long 0, .int 0, .null, .null, .int 0, .null, .null, .null]))]) ++ ([(q7, .inl (ca 0, 6, .inl (fun _ => 0)))]) ++ ([(q16, .inl (ca 0, 240, .inl (fun _ => 0)))]) ++ ([(q23, .inl (ca 0, 4, .inl (fun _ => 0)))]) ++ ([(q32, .inl (ca 0, 320, .inl (fun _ => 0)))])) := hD
  refine lv_aload_n hx hb dX8_init_37 rfl (lv_at hl 0 rfl) ?_
  refine lv_bipush (v := (115)) hx hb dX8_init_38 (by decide) ?_
  refine va_newa (atype := .int) (n := 115) (N' := 115) (a0 := (115, .inl (fun _ => 0))) hx hb (hts _ k_X8_init_4) rfl hK.1 hP hD hS hA (fun _ => rfl) (by decide) (by decide) (Nat.le_of_ble_eq_true rfl) (Nat.le_of_ble_eq_true rfl) (Nat.le_of_ble_eq_true rfl) dX8_init_40 (fun q40 cA H hK1 hP hD hS => ?_)
  obtain rfl := ca_int hK1
  have hP : va_P D vwCl (([(h0, .inr (7, [.ref q7, .ref q16, .ref q23, .ref q32, .null, .null, .null, .int 0, .long 0, .long 0, .int 0, .null, .null, .int 0, .null, .null, .null]))]) ++ ([(q7, .inl (ca 0, 6, .inl (fun _ => 0)))]) ++ ([(q16, .inl (ca 0, 240, .inl (fun _ => 0)))]) ++ ([(q23, .inl (ca 0, 4, .inl (fun _ => 0)))]) ++ ([(q32, .inl (ca 0, 320, .inl (fun _ => 0)))]) ++ ([(q40, .inl (ca 0, 115, .inl (fun _ => 0)))])) H := hP
  have hD : va_D A (([(h0, .inr (7, [.ref q7, .ref q16, .ref q23, .ref q32, .null, .null, .null, .int 0, .long 0, .long 0, .int 0, .null, .null, .int 0, .null, .null, .null]))]) ++ ([(q7, .inl (ca 0, 6, .inl (fun _ => 0)))]) ++ ([(q16, .inl (ca 0, 240, .inl (fun _ => 0)))]) ++ ([(q23, .inl (ca 0, 4, .inl (fun _ => 0)))]) ++ ([(q32, .inl (ca 0, 320, .inl (fun _ => 0)))]) ++ ([(q40, .inl (ca 0, 115, .inl (fun _ => 0)))])) := hD
  refine W.widen (k := 5) (n := 685) (Nat.le_of_ble_eq_true rfl) (Nat.le_of_ble_eq_true rfl) ?_
  refine va_putF (D := D) (ci := 7) (v := .ref q40) (ty := .array .int) (C := RX8) (T := TX8) (N := 17) hx hb hts hi_X8_init_X8 tyX8 tyX8_ok nmX8 hown hK.1 hP hD hS 0 rfl rfl 4 (by decide) (hts _ k_X8_init_9) (fun _ h9 => h9) rfl hin rfl (by decide +kernel) rfl rfl (Nat.le_of_ble_eq_true rfl) dX8_init_42 (fun H locs hP hD hS => ?_)
  have hP : va_P D vwCl (([(h0, .inr (7, [.ref q7, .ref q16, .ref q23, .ref q32, .ref q40, .null, .null, .int 0, .long 0, .long 0, .int 0, .null, .null, .int 0, .null, .null, .null]))]) ++ ([(q7, .inl (ca 0, 6, .inl (fun _ => 0)))]) ++ ([(q16, .inl (ca 0, 240, .inl (fun _ => 0)))]) ++ ([(q23, .inl (ca 0, 4, .inl (fun _ => 0)))]) ++ ([(q32, .inl (ca 0, 320, .inl (fun _ => 0)))]) ++ ([(q40, .inl (ca 0, 115, .inl (fun _ => 0)))])) H := hP
  have hD : va_D A (([(h0, .inr (7, [.ref q7, .ref q16, .ref q23, .ref q32, .ref q40, .null, .null, .int 0, .long 0, .long 0, .int 0, .null, .null, .int 0, .null, .null, .null]))]) ++ ([(q7, .inl (ca 0, 6, .inl (fun _ => 0)))]) ++ ([(q16, .inl (ca 0, 240, .inl (fun _ => 0)))]) ++ ([(q23, .inl (ca 0, 4, .inl (fun _ => 0)))]) ++ ([(q32, .inl (ca 0, 320, .inl (fun _ => 0)))]) ++ ([(q40, .inl (ca 0, 115, .inl (fun _ => 0)))])) := hD
  refine lv_aload_n hx hb dX8_init_45 rfl (lv_at hl 0 rfl) ?_
  refine lv_sipush (v := (345)) hx hb dX8_init_46 (by decide) ?_
  refine va_newa (atype := .int) (n := 345) (N' := 345) (a0 := (345, .inl (fun _ => 0))) hx hb (hts _ k_X8_init_4) rfl hK.1 hP hD hS hA (fun _ => rfl) (by decide) (by decide) (Nat.le_of_ble_eq_true rfl) (Nat.le_of_ble_eq_true rfl) (Nat.le_of_ble_eq_true rfl) dX8_init_49 (fun q49 cA H hK1 hP hD hS => ?_)
  obtain rfl := ca_int hK1
  have hP : va_P D vwCl (([(h0, .inr (7, [.ref q7, .ref q16, .ref q23, .ref q32, .ref q40, .null, .null, .int 0, .long 0, .long 0, .int 0, .null, .null, .int 0, .null, .null, .null]))]) ++ ([(q7, .inl (ca 0, 6, .inl (fun _ => 0)))]) ++ ([(q16, .inl (ca 0, 240, .inl (fun _ => 0)))]) ++ ([(q23, .inl (ca 0, 4, .inl (fun _ => 0)))]) ++ ([(q32, .inl (ca 0, 320, .inl (fun _ => 0)))]) ++ ([(q40, .inl (ca 0, 115, .inl (fun _ => 0)))]) ++ ([(q49, .inl (ca 0, 345, .inl (fun _ => 0)))])) H := hP
  have hD : va_D A (([(h0, .inr (7, [.ref q7, .ref q16, .ref q23, .ref q32, .ref q40, .null, .null, .int 0, .long 0, .long 0, .int 0, .null, .null, .int 0, .null, .null, .null]))]) ++ ([(q7, .inl (ca 0, 6, .inl (fun _ => 0)))]) ++ ([(q16, .inl (ca 0, 240, .inl (fun _ => 0)))]) ++ ([(q23, .inl (ca 0, 4, .inl (fun _ => 0)))]) ++ ([(q32, .inl (ca 0, 320, .inl (fun _ => 0)))]) ++ ([(q40, .inl (ca 0, 115, .inl (fun _ => 0)))]) ++ ([(q49, .inl (ca 0, 345, .inl (fun _ => 0)))])) := hD
  refine W.widen (k := 6) (n := 1030) (Nat.le_of_ble_eq_true rfl) (Nat.le_of_ble_eq_true rfl) ?_
  refine va_putF (D := D) (ci := 7) (v := .ref q49) (ty := .array .int) (C := RX8) (T := TX8) (N := 17) hx hb hts hi_X8_init_X8 tyX8 tyX8_ok nmX8 hown hK.1 hP hD hS 0 rfl rfl 5 (by decide) (hts _ k_X8_init_10) (fun _ h9 => h9) rfl hin rfl (by decide +kernel) rfl rfl (Nat.le_of_ble_eq_true rfl) dX8_init_51 (fun H locs hP hD hS => ?_)
  have hP : va_P D vwCl (([(h0, .inr (7, [.ref q7, .ref q16, .ref q23, .ref q32, .ref q40, .ref q49, .null, .int 0, .long 0, .long 0, .int 0, .null, .null, .int 0, .null, .null, .null]))]) ++ ([(q7, .inl (ca 0, 6, .inl (fun _ => 0)))]) ++ ([(q16, .inl (ca 0, 240, .inl (fun _ => 0)))]) ++ ([(q23, .inl (ca 0, 4, .inl (fun _ => 0)))]) ++ ([(q32, .inl (ca 0, 320, .inl (fun _ => 0)))]) ++ ([(q40, .inl (ca 0, 115, .inl (fun _ => 0)))]) ++ ([(q49, .inl (ca 0, 345, .inl (fun _ => 0)))])) H := hP
  have hD : va_D A (([(h0, .inr (7, [.ref q7, .ref q16, .ref q23, .ref q32, .ref q40, .ref q49, .null, .int 0, .long 0, .long 0, .int 0, .null, .null, .int 0, .null, .null, .null]))]) ++ ([(q7, .inl (ca 0, 6, .inl (fun _ => 0)))]) ++ ([(q16, .inl (ca 0, 240, .inl (fun _ => 0)))]) ++ ([(q23, .inl (ca 0, 4, .inl (fun _ => 0)))]) ++ ([(q32, .inl (ca 0, 320, .inl (fun _ => 0)))]) ++ ([(q40, .inl (ca 0, 115, .inl (fun _ => 0)))]) ++ ([(q49, .inl (ca 0, 345, .inl (fun _ => 0)))])) := hD
  refine lv_aload_n hx hb dX8_init_54 rfl (lv_at hl 0 rfl) ?_
  refine lv_iconst (v := (3)) hx hb dX8_init_55 (by decide) ?_
  refine va_newa (atype := .boolean) (n := 3) (N' := 3) (a0 := (3, .inl (fun _ => 0))) hx hb (hts _ k_X8_init_11) rfl hK.1 hP hD hS hA (fun _ => rfl) (by decide) (by decide) (Nat.le_of_ble_eq_true rfl) (Nat.le_of_ble_eq_true rfl) (Nat.le_of_ble_eq_true rfl) dX8_init_56 (fun q56 cA H hK1 hP hD hS => ?_)
  obtain rfl := ca_boolean hK1
  have hP : va_P D vwCl (([(h0, .inr (7, [.ref q7, .ref q16, .ref q23, .ref q32, .ref q40, .ref q49, .null, .int 0, .long 0, .long 0, .int 0, .null, .null, .int 0, .null, .null, .null]))]) ++ ([(q7, .inl (ca 0, 6, .inl (fun _ => 0)))]) ++ ([(q16, .inl (ca 0, 240, .inl (fun _ => 0)))]) ++ ([(q23, .inl (ca 0, 4, .inl (fun _ => 0)))]) ++ ([(q32, .inl (ca 0, 320, .inl (fun _ => 0)))]) ++ ([(q40, .inl (ca 0, 115, .inl (fun _ => 0)))]) ++ ([(q49, .inl (ca 0, 345, .inl (fun _ => 0)))]) ++ ([(q56, .inl (ca 1, 3, .inl (fun _ => 0)))])) H := hP
  have hD : va_D A (([(h0, .inr (7, [.ref q7, .ref q16, .ref q23, .ref q32, .ref q40, .ref q49, .null, .int 0, .long 0, .long 0, .int 0, .null, .null, .int 0, .null, .null, .null]))]) ++ ([(q7, .inl (ca 0, 6, .inl (fun _ => 0)))]) ++ ([(q16, .inl (ca 0, 240, .inl (fun _ => 0)))]) ++ ([(q23, .inl (ca 0, 4, .inl (fun _ => 0)))]) ++ ([(q32, .inl (ca 0, 320, .inl (fun _ => 0)))]) ++ ([(q40, .inl (ca 0, 115, .inl (fun _ => 0)))]) ++ ([(q49, .inl (ca 0, 345, .inl (fun _ => 0)))]) ++ ([(q56, .inl (ca 1, 3, .inl (fun _ => 0)))])) := hD
  refine W.widen (k := 7) (n := 1033) (Nat.le_of_ble_eq_true rfl) (Nat.le_of_ble_eq_true rfl) ?_
  refine va_putF (D := D) (ci := 7) (v := .ref q56) (ty := .array .boolean) (C := RX8) (T := TX8) (N := 17) hx hb hts hi_X8_init_X8 tyX8 tyX8_ok nmX8 hown hK.1 hP hD hS 0 rfl rfl 6 (by decide) (hts _ k_X8_init_12) (fun _ h9 => h9) rfl hin rfl (by decide +kernel) rfl rfl (Nat.le_of_ble_eq_true rfl) dX8_init_58 (fun H locs hP hD hS => ?_)
  have hP : va_P D vwCl (([(h0, .inr (7, [.ref q7, .ref q16, .ref q23, .ref q32, .ref q40, .ref q49, .ref q56, .int 0, .long 0, .long 0, .int 0, .null, .null, .int 0, .null, .null, .null]))]) ++ ([(q7, .inl (ca 0, 6, .inl (fun _ => 0)))]) ++ ([(q16, .inl (ca 0, 240, .inl (fun _ => 0)))]) ++ ([(q23, .inl (ca 0, 4, .inl (fun _ => 0)))]) ++ ([(q32, .inl (ca 0, 320, .inl (fun _ => 0)))]) ++ ([(q40, .inl (ca 0, 115, .inl (fun _ => 0)))]) ++ ([(q49, .inl (ca 0, 345, .inl (fun _ => 0)))]) ++ ([(q56, .inl (ca 1, 3, .inl (fun _ => 0)))])) H := hP
  have hD : va_D A (([(h0, .inr (7, [.ref q7, .ref q16, .ref q23, .ref q32, .ref q40, .ref q49, .ref q56, .int 0, .long 0, .long 0, .int 0, .null, .null, .int 0, .null, .null, .null]))]) ++ ([(q7, .inl (ca 0, 6, .inl (fun _ => 0)))]) ++ ([(q16, .inl (ca 0, 240, .inl (fun _ => 0)))]) ++ ([(q23, .inl (ca 0, 4, .inl (fun _ => 0)))]) ++ ([(q32, .inl (ca 0, 320, .inl (fun _ => 0)))]) ++ ([(q40, .inl (ca 0, 115, .inl (fun _ => 0)))]) ++ ([(q49, .inl (ca 0, 345, .inl (fun _ => 0)))]) ++ ([(q56, .inl (ca 1, 3, .inl (fun _ => 0)))])) := hD
  refine lv_aload_n hx hb dX8_init_61 rfl (lv_at hl 0 rfl) ?_
  refine lv_lconst (v := (1)) hx hb dX8_init_62 (by decide) ?_
  refine va_put (D := D) (ci := 7) (v := .long 1) (ty := .long) (C := RX8) (T := TX8) (N := 17) hx hb hts hi_X8_init_X8 tyX8 tyX8_ok nmX8 hown hK.1 hP hD hS 0 rfl rfl 9 (by decide) (hts _ k_X8_init_13) (fun _ h9 => h9) rfl (by decide +kernel) rfl rfl (Nat.le_of_ble_eq_true rfl) dX8_init_63 (fun H locs hP hD hS => ?_)
  have hP : va_P D vwCl (([(h0, .inr (7, [.ref q7, .ref q16, .ref q23, .ref q32, .ref q40, .ref q49, .ref q56, .int 0, .long 0, .long 1, .int 0, .null, .null, .int 0, .null, .null, .null]))]) ++ ([(q7, .inl (ca 0, 6, .inl (fun _ => 0)))]) ++ ([(q16, .inl (ca 0, 240, .inl (fun _ => 0)))]) ++ ([(q23, .inl (ca 0, 4, .inl (fun _ => 0)))]) ++ ([(q32, .inl (ca 0, 320, .inl (fun _ => 0)))]) ++ ([(q40, .inl (ca 0, 115, .inl (fun _ => 0)))]) ++ ([(q49, .inl (ca 0, 345, .inl (fun _ => 0)))]) ++ ([(q56, .inl (ca 1, 3, .inl (fun _ => 0)))])) H := hP
  have hD : va_D A (([(h0, .inr (7, [.ref q7, .ref q16, .ref q23, .ref q32, .ref q40, .ref q49, .ref q56, .int 0, .long 0, .long 1, .int 0, .null, .null, .int 0, .null, .null, .null]))]) ++ ([(q7, .inl (ca 0, 6, .inl (fun _ => 0)))]) ++ ([(q16, .inl (ca 0, 240, .inl (fun _ => 0)))]) ++ ([(q23, .inl (ca 0, 4, .inl (fun _ => 0)))]) ++ ([(q32, .inl (ca 0, 320, .inl (fun _ => 0)))]) ++ ([(q40, .inl (ca 0, 115, .inl (fun _ => 0)))]) ++ ([(q49, .inl (ca 0, 345, .inl (fun _ => 0)))]) ++ ([(q56, .inl (ca 1, 3, .inl (fun _ => 0)))])) := hD
  refine lv_aload_n hx hb dX8_init_66 rfl (lv_at hl 0 rfl) ?_
  refine lv_bipush (v := (6)) hx hb dX8_init_67 (by decide) ?_
  refine va_newa (atype := .int) (n := 6) (N' := 6) (a0 := (6, .inl (fun _ => 0))) hx hb (hts _ k_X8_init_4) rfl hK.1 hP hD hS hA (fun _ => rfl) (by decide) (by decide) (Nat.le_of_ble_eq_true rfl) (Nat.le_of_ble_eq_true rfl) (Nat.le_of_ble_eq_true rfl) dX8_init_69 (fun q69 cA H hK1 hP hD hS => ?_)
  obtain rfl := ca_int hK1
  have hP : va_P D vwCl (([(h0, .inr (7, [.ref q7, .ref q16, .ref q23, .ref q32, .ref q40, .ref q49, .ref q56, .int 0, .long 0, .long 1, .int 0, .null, .null, .int 0, .null, .null, .null]))]) ++ ([(q7, .inl (ca 0, 6, .inl (fun _ => 0)))]) ++ ([(q16, .inl (ca 0, 240, .inl (fun _ => 0)))]) ++ ([(q23, .inl (ca 0, 4, .inl (fun _ => 0)))]) ++ ([(q32, .inl (ca 0, 320, .inl (fun _ => 0)))]) ++ ([(q40, .inl (ca 0, 115, .inl (fun _ => 0)))]) ++ ([(q49, .inl (ca 0, 345, .inl (fun _ => 0)))]) ++ ([(q56, .inl (ca 1, 3, .inl (fun _ => 0)))]) ++ ([(q69, .inl (ca 0, 6, .inl (fun _ => 0)))])) H := hP
  have hD : va_D A (([(h0, .inr (7, [.ref q7, .ref q16, .ref q23, .ref q32, .ref q40, .ref q49, .ref q56, .int 0, .long 0, .long 1, .int 0, .null, .null, .int 0, .null, .null, .null]))]) ++ ([(q7, .inl (ca 0, 6, .inl (fun _ => 0)))]) ++ ([(q16, .inl (ca 0, 240, .inl (fun _ => 0)))]) ++ ([(q23, .inl (ca 0, 4, .inl (fun _ => 0)))]) ++ ([(q32, .inl (ca 0, 320, .inl (fun _ => 0)))]) ++ ([(q40, .inl (ca 0, 115, .inl (fun _ => 0)))]) ++ ([(q49, .inl (ca 0, 345, .inl (fun _ => 0)))]) ++ ([(q56, .inl (ca 1, 3, .inl (fun _ => 0)))]) ++ ([(q69, .inl (ca 0, 6, .inl (fun _ => 0)))])) := hD
  refine W.widen (k := 8) (n := 1039) (Nat.le_of_ble_eq_true rfl) (Nat.le_of_ble_eq_true rfl) ?_
  refine va_putF (D := D) (ci := 7) (v := .ref q69) (ty := .array .int) (C := RX8) (T := TX8) (N := 17) hx hb hts hi_X8_init_X8 tyX8 tyX8_ok nmX8 hown hK.1 hP hD hS 0 rfl rfl 11 (by decide) (hts _ k_X8_init_14) (fun _ h9 => h9) rfl hin rfl (by decide +kernel) rfl rfl (Nat.le_of_ble_eq_true rfl) dX8_init_71 (fun H locs hP hD hS => ?_)
  have hP : va_P D vwCl (([(h0, .inr (7, [.ref q7, .ref q16, .ref q23, .ref q32, .ref q40, .ref q49, .ref q56, .int 0, .long 0, .long 1, .int 0, .ref q69, .null, .int 0, .null, .null, .null]))]) ++ ([(q7, .inl (ca 0, 6, .inl (fun _ => 0)))]) ++ ([(q16, .inl (ca 0, 240, .inl (fun _ => 0)))]) ++ ([(q23, .inl (ca 0, 4, .inl (fun _ => 0)))]) ++ ([(q32, .inl (ca 0, 320, .inl (fun _ => 0)))]) ++ ([(q40, .inl (ca 0, 115, .inl (fun _ => 0)))]) ++ ([(q49, .inl (ca 0, 345, .inl (fun _ => 0)))]) ++ ([(q56, .inl (ca 1, 3, .inl (fun _ => 0)))]) ++ ([(q69, .inl (ca 0, 6, .inl (fun _ => 0)))])) H := hP
  have hD : va_D A (([(h0, .inr (7, [.ref q7, .ref q16, .ref q23, .ref q32, .ref q40, .ref q49, .ref q56, .int 0, .long 0, .long 1, .int 0, .ref q69, .null, .int 0, .null, .null, .null]))]) ++ ([(q7, .inl (ca 0, 6, .inl (fun _ => 0)))]) ++ ([(q16, .inl (ca 0, 240, .inl (fun _ => 0)))]) ++ ([(q23, .inl (ca 0, 4, .inl (fun _ => 0)))]) ++ ([(q32, .inl (ca 0, 320, .inl (fun _ => 0)))]) ++ ([(q40, .inl (ca 0, 115, .inl (fun _ => 0)))]) ++ ([(q49, .inl (ca 0, 345, .inl (fun _ => 0)))]) ++ ([(q56, .inl (ca 1, 3, .inl (fun _ => 0)))]) ++ ([(q69, .inl (ca 0, 6, .inl (fun _ => 0)))])) := hD
  refine lv_aload_n hx hb dX8_init_74 rfl (lv_at hl 0 rfl) ?_
  refine lv_bipush (v := (115)) hx hb dX8_init_75 (by decide) ?_
  refine va_newa (atype := .int) (n := 115) (N' := 115) (a0 := (115, .inl (fun _ => 0))) hx hb (hts _ k_X8_init_4) rfl hK.1 hP hD hS hA (fun _ => rfl) (by decide) (by decide) (Nat.le_of_ble_eq_true rfl) (Nat.le_of_ble_eq_true rfl) (Nat.le_of_ble_eq_true rfl) dX8_init_77 (fun q77 cA H hK1 hP hD hS => ?_)
  obtain rfl := ca_int hK1
  have hP : va_P D vwCl (([(h0, .inr (7, [.ref q7, .ref q16, .ref q23, .ref q32, .ref q40, .ref q49, .ref q56, .int 0, .long 0, .long 1, .int 0, .ref q69, .null, .int 0, .null, .null, .null]))]) ++ ([(q7, .inl (ca 0, 6, .inl (fun _ => 0)))]) ++ ([(q16, .inl (ca 0, 240, .inl (fun _ => 0)))]) ++ ([(q23, .inl (ca 0, 4, .inl (fun _ => 0)))]) ++ ([(q32, .inl (ca 0, 320, .inl (fun _ => 0)))]) ++ ([(q40, .inl (ca 0, 115, .inl (fun _ => 0)))]) ++ ([(q49, .inl (ca 0, 345, .inl (fun _ => 0)))]) ++ ([(q56, .inl (ca 1, 3, .inl (fun _ => 0)))]) ++ ([(q69, .inl (ca 0, 6, .inl (fun _ => 0)))]) ++ ([(q77, .inl (ca 0, 115, .inl (fun _ => 0)))])) H := hP
  have hD : va_D A (([(h0, .inr (7, [.ref q7, .ref q16, .ref q23, .ref q32, .ref q40, .ref q49, .ref q56, .int 0, .long 0, .long 1, .int 0, .ref q69, .null, .int 0, .null, .null, .null]))]) ++ ([(q7, .inl (ca 0, 6, .inl (fun _ => 0)))]) ++ ([(q16, .inl (ca 0, 240, .inl (fun _ => 0)))]) ++ ([(q23, .inl (ca 0, 4, .inl (fun _ => 0)))]) ++ ([(q32, .inl (ca 0, 320, .inl (fun _ => 0)))]) ++ ([(q40, .inl (ca 0, 115, .inl (fun _ => 0)))]) ++ ([(q49, .inl (ca 0, 345, .inl (fun _ => 0)))]) ++ ([(q56, .inl (ca 1, 3, .inl (fun _ => 0)))]) ++ ([(q69, .inl (ca 0, 6, .inl (fun _ => 0)))]) ++ ([(q77, .inl (ca 0, 115, .inl (fun _ => 0)))])) := hD
  refine W.widen (k := 9) (n := 1154) (Nat.le_of_ble_eq_true rfl) (Nat.le_of_ble_eq_true rfl) ?_
  refine va_putF (D := D) (ci := 7) (v := .ref q77) (ty := .array .int) (C := RX8) (T := TX8) (N := 17) hx hb hts hi_X8_init_X8 tyX8 tyX8_ok nmX8 hown hK.1 hP hD hS 0 rfl rfl 12 (by decide) (hts _ k_X8_init_15) (fun _ h9 => h9) rfl hin rfl (by decide +kernel) rfl rfl (Nat.le_of_ble_eq_true rfl) dX8_init_79 (fun H locs hP hD hS => ?_)
  have hP : va_P D vwCl (([(h0, .inr (7, [.ref q7, .ref q16, .ref q23, .ref q32, .ref q40, .ref q49, .ref q56, .int 0, .long 0, .long 1, .int 0, .ref q69, .ref q77, .int 0, .null, .null, .null]))]) ++ ([(q7, .inl (ca 0, 6, .inl (fun _ => 0)))]) ++ ([(q16, .inl (ca 0, 240, .inl (fun _ => 0)))]) ++ ([(q23, .inl (ca 0, 4, .inl (fun _ => 0)))]) ++ ([(q32, .inl (ca 0, 320, .inl (fun _ => 0)))]) ++ ([(q40, .inl (ca 0, 115, .inl (fun _ => 0)))]) ++ ([(q49, .inl (ca 0, 345, .inl (fun _ => 0)))]) ++ ([(q56, .inl (ca 1, 3, .inl (fun _ => 0)))]) ++ ([(q69, .inl (ca 0, 6, .inl (fun _ => 0)))]) ++ ([(q77, .inl (ca 0, 115, .inl (fun _ => 0)))])) H := hP
  have hD : va_D A (([(h0, .inr (7, [.ref q7, .ref q16, .ref q23, .ref q32, .ref q40, .ref q49, .ref q56, .int 0, .long 0, .long 1, .int 0, .ref q69, .ref q77, .int 0, .null, .null, .null]))]) ++ ([(q7, .inl (ca 0, 6, .inl (fun _ => 0)))]) ++ ([(q16, .inl (ca 0, 240, .inl (fun _ => 0)))]) ++ ([(q23, .inl (ca 0, 4, .inl (fun _ => 0)))]) ++ ([(q32, .inl (ca 0, 320, .inl (fun _ => 0)))]) ++ ([(q40, .inl (ca 0, 115, .inl (fun _ => 0)))]) ++ ([(q49, .inl (ca 0, 345, .inl (fun _ => 0)))]) ++ ([(q56, .inl (ca 1, 3, .inl (fun _ => 0)))]) ++ ([(q69, .inl (ca 0, 6, .inl (fun _ => 0)))]) ++ ([(q77, .inl (ca 0, 115, .inl (fun _ => 0)))])) := hD
  refine lv_aload_n hx hb dX8_init_82 rfl (lv_at hl 0 rfl) ?_
  refine lv_sipush (v := (4096)) hx hb dX8_init_83 (by decide) ?_
  refine va_newa (atype := .int) (n := 4096) (N' := 4096) (a0 := (4096, .inl (fun _ => 0))) hx hb (hts _ k_X8_init_4) rfl hK.1 hP hD hS hA (fun _ => rfl) (by decide) (by decide) (Nat.le_of_ble_eq_true rfl) (Nat.le_of_ble_eq_true rfl) (Nat.le_of_ble_eq_true rfl) dX8_init_86 (fun q86 cA H hK1 hP hD hS => ?_)
  obtain rfl := ca_int hK1
  have hP : va_P D vwCl (([(h0, .inr (7, [.ref q7, .ref q16, .ref q23, .ref q32, .ref q40, .ref q49, .ref q56, .int 0, .long 0, .long 1, .int 0, .ref q69, .ref q77, .int 0, .null, .null, .null]))]) ++ ([(q7, .inl (ca 0, 6, .inl (fun _ => 0)))]) ++ ([(q16, .inl (ca 0, 240, .inl (fun _ => 0)))]) ++ ([(q23, .inl (ca 0, 4, .inl (fun _ => 0)))]) ++ ([(q32, .inl (ca 0, 320, .inl (fun _ => 0)))]) ++ ([(q40, .inl (ca 0, 115, .inl (fun _ => 0)))]) ++ ([(q49, .inl (ca 0, 345, .inl (fun _ => 0)))]) ++ ([(q56, .inl (ca 1, 3, .inl (fun _ => 0)))]) ++ ([(q69, .inl (ca 0, 6, .inl (fun _ => 0)))]) ++ ([(q77, .inl (ca 0, 115, .inl (fun _ => 0)))]) ++ ([(q86, .inl (ca 0, 4096, .inl (fun _ => 0)))])) H := hP
  have hD : va_D A (([(h0, .inr (7, [.ref q7, .ref q16, .ref q23, .ref q32, .ref q40, .ref q49, .ref q56, .int 0, .long 0, .long 1, .int 0, .ref q69, .ref q77, .int 0, .null, .null, .null]))]) ++ ([(q7, .inl (ca 0, 6, .inl (fun _ => 0)))]) ++ ([(q16, .inl (ca 0, 240, .inl (fun _ => 0)))]) ++ ([(q23, .inl (ca 0, 4, .inl (fun _ => 0)))]) ++ ([(q32, .inl (ca 0, 320, .inl (fun _ => 0)))]) ++ ([(q40, .inl (ca 0, 115, .inl (fun _ => 0)))]) ++ ([(q49, .inl (ca 0, 345, .inl (fun _ => 0)))]) ++ ([(q56, .inl (ca 1, 3, .inl (fun _ => 0)))]) ++ ([(q69, .inl (ca 0, 6, .inl (fun _ => 0)))]) ++ ([(q77, .inl (ca 0, 115, .inl (fun _ => 0)))]) ++ ([(q86, .inl (ca 0, 4096, .inl (fun _ => 0)))])) := hD
  refine W.widen (k := 10) (n := 5250) (Nat.le_of_ble_eq_true rfl) (Nat.le_of_ble_eq_true rfl) ?_
  refine va_putF (D := D) (ci := 7) (v := .ref q86) (ty := .array .int) (C := RX8) (T := TX8) (N := 17) hx hb hts hi_X8_init_X8 tyX8 tyX8_ok nmX8 hown hK.1 hP hD hS 0 rfl rfl 14 (by decide) (hts _ k_X8_init_16) (fun _ h9 => h9) rfl hin rfl (by decide +kernel) rfl rfl (Nat.le_of_ble_eq_true rfl) dX8_init_88 (fun H locs hP hD hS => ?_)
  have hP : va_P D vwCl (([(h0, .inr (7, [.ref q7, .ref q16, .ref q23, .ref q32, .ref q40, .ref q49, .ref q56, .int 0, .long 0, .long 1, .int 0, .ref q69, .ref q77, .int 0, .ref q86, .null, .null]))]) ++ ([(q7, .inl (ca 0, 6, .inl (fun _ => 0)))]) ++ ([(q16, .inl (ca 0, 240, .inl (fun _ => 0)))]) ++ ([(q23, .inl (ca 0, 4, .inl (fun _ => 0)))]) ++ ([(q32, .inl (ca 0, 320, .inl (fun _ => 0)))]) ++ ([(q40, .inl (ca 0, 115, .inl (fun _ => 0)))]) ++ ([(q49, .inl (ca 0, 345, .inl (fun _ => 0)))]) ++ ([(q56, .inl (ca 1, 3, .inl (fun _ => 0)))]) ++ ([(q69, .inl (ca 0, 6, .inl (fun _ => 0)))]) ++ ([(q77, .inl (ca 0, 115, .inl (fun _ => 0)))]) ++ ([(q86, .inl (ca 0, 4096, .inl (fun _ => 0)))])) H := hP
  have hD : va_D A (([(h0, .inr (7, [.ref q7, .ref q16, .ref q23, .ref q32, .ref q40, .ref q49, .ref q56, .int 0, .long 0, .long 1, .int 0, .ref q69, .ref q77, .int 0, .ref q86, .null, .null]))]) ++ ([(q7, .inl (ca 0, 6, .inl (fun _ => 0)))]) ++ ([(q16, .inl (ca 0, 240, .inl (fun _ => 0)))]) ++ ([(q23, .inl (ca 0, 4, .inl (fun _ => 0)))]) ++ ([(q32, .inl (ca 0, 320, .inl (fun _ => 0)))]) ++ ([(q40, .inl (ca 0, 115, .inl (fun _ => 0)))]) ++ ([(q49, .inl (ca 0, 345, .inl (fun _ => 0)))]) ++ ([(q56, .inl (ca 1, 3, .inl (fun _ => 0)))]) ++ ([(q69, .inl (ca 0, 6, .inl (fun _ => 0)))]) ++ ([(q77, .inl (ca 0, 115, .inl (fun _ => 0)))]) ++ ([(q86, .inl (ca 0, 4096, .inl (fun _ => 0)))])) := hD
  refine lv_aload_n hx hb dX8_init_91 rfl (lv_at hl 0 rfl) ?_
  refine lv_sipush (v := (4096)) hx hb dX8_init_92 (by decide) ?_
  refine va_newa (atype := .long) (n := 4096) (N' := 4096) (a0 := (4096, .inr (.inl (fun _ => 0)))) hx hb (hts _ k_X8_init_17) rfl hK.1 hP hD hS hA (fun _ => rfl) (by decide) (by decide) (Nat.le_of_ble_eq_true rfl) (Nat.le_of_ble_eq_true rfl) (Nat.le_of_ble_eq_true rfl) dX8_init_95 (fun q95 cA H hK1 hP hD hS => ?_)
  obtain rfl := ca_long hK1
  have hP : va_P D vwCl (([(h0, .inr (7, [.ref q7, .ref q16, .ref q23, .ref q32, .ref q40, .ref q49, .ref q56, .int 0, .long 0, .long 1, .int 0, .ref q69, .ref q77, .int 0, .ref q86, .null, .null]))]) ++ ([(q7, .inl (ca 0, 6, .inl (fun _ => 0)))]) ++ ([(q16, .inl (ca 0, 240, .inl (fun _ => 0)))]) ++ ([(q23, .inl (ca 0, 4, .inl (fun _ => 0)))]) ++ ([(q32, .inl (ca 0, 320, .inl (fun _ => 0)))]) ++ ([(q40, .inl (ca 0, 115, .inl (fun _ => 0)))]) ++ ([(q49, .inl (ca 0, 345, .inl (fun _ => 0)))]) ++ ([(q56, .inl (ca 1, 3, .inl (fun _ => 0)))]) ++ ([(q69, .inl (ca 0, 6, .inl (fun _ => 0)))]) ++ ([(q77, .inl (ca 0, 115, .inl (fun _ => 0)))]) ++ ([(q86, .inl (ca 0, 4096, .inl (fun _ => 0)))]) ++ ([(q95, .inl (ca 2, 4096, .inr (.inl (fun _ => 0))))])) H := hP
  have hD : va_D A (([(h0, .inr (7, [.ref q7, .ref q16, .ref q23, .ref q32, .ref q40, .ref q49, .ref q56, .int 0, .long 0, .long 1, .int 0, .ref q69, .ref q77, .int 0, .ref q86, .null, .null]))]) ++ ([(q7, .inl (ca 0, 6, .inl (fun _ => 0)))]) ++ ([(q16, .inl (ca 0, 240, .inl (fun _ => 0)))]) ++ ([(q23, .inl (ca 0, 4, .inl (fun _ => 0)))]) ++ ([(q32, .inl (ca 0, 320, .inl (fun _ => 0)))]) ++ ([(q40, .inl (ca 0, 115, .inl (fun _ => 0)))]) ++ ([(q49, .inl (ca 0, 345, .inl (fun _ => 0)))]) ++ ([(q56, .inl (ca 1, 3, .inl (fun _ => 0)))]) ++ ([(q69, .inl (ca 0, 6, .inl (fun _ => 0)))]) ++ ([(q77, .inl (ca 0, 115, .inl (fun _ => 0)))]) ++ ([(q86, .inl (ca 0, 4096, .inl (fun _ => 0)))]) ++ ([(q95, .inl (ca 2, 4096, .inr (.inl (fun _ => 0))))])) := hD
  refine W.widen (k := 11) (n := 9346) (Nat.le_of_ble_eq_true rfl) (Nat.le_of_ble_eq_true rfl) ?_
  refine va_putF (D := D) (ci := 7) (v := .ref q95) (ty := .array .long) (C := RX8) (T := TX8) (N := 17) hx hb hts hi_X8_init_X8 tyX8 tyX8_ok nmX8 hown hK.1 hP hD hS 0 rfl rfl 15 (by decide) (hts _ k_X8_init_18) (fun _ h9 => h9) rfl hin rfl (by decide +kernel) rfl rfl (Nat.le_of_ble_eq_true rfl) dX8_init_97 (fun H locs hP hD hS => ?_)
  have hP : va_P D vwCl (([(h0, .inr (7, [.ref q7, .ref q16, .ref q23, .ref q32, .ref q40, .ref q49, .ref q56, .int 0, .long 0, .long 1, .int 0, .ref q69, .ref q77, .int 0, .ref q86, .ref q95, .null]))]) ++ ([(q7, .inl (ca 0, 6, .inl (fun _ => 0)))]) ++ ([(q16, .inl (ca 0, 240, .inl (fun _ => 0)))]) ++ ([(q23, .inl (ca 0, 4, .inl (fun _ => 0)))]) ++ ([(q32, .inl (ca 0, 320, .inl (fun _ => 0)))]) ++ ([(q40, .inl (ca 0, 115, .inl (fun _ => 0)))]) ++ ([(q49, .inl (ca 0, 345, .inl (fun _ => 0)))]) ++ ([(q56, .inl (ca 1, 3, .inl (fun _ => 0)))]) ++ ([(q69, .inl (ca 0, 6, .inl (fun _ => 0)))]) ++ ([(q77, .inl (ca 0, 115, .inl (fun _ => 0)))]) ++ ([(q86, .inl (ca 0, 4096, .inl (fun _ => 0)))]) ++ ([(q95, .inl (ca 2, 4096, .inr (.inl (fun _ => 0))))])) H := hP
  have hD : va_D A (([(h0, .inr (7, [.ref q7, .ref q16, .ref q23, .ref q32, .ref q40, .ref q49, .ref q56, .int 0, .long 0, .long 1, .int 0, .ref q69, .ref q77, .int 0, .ref q86, .ref q95, .null]))]) ++ ([(q7, .inl (ca 0, 6, .inl (fun _ => 0)))]) ++ ([(q16, .inl (ca 0, 240, .inl (fun _ => 0)))]) ++ ([(q23, .inl (ca 0, 4, .inl (fun _ => 0)))]) ++ ([(q32, .inl (ca 0, 320, .inl (fun _ => 0)))]) ++ ([(q40, .inl (ca 0, 115, .inl (fun _ => 0)))]) ++ ([(q49, .inl (ca 0, 345, .inl (fun _ => 0)))]) ++ ([(q56, .inl (ca 1, 3, .inl (fun _ => 0)))]) ++ ([(q69, .inl (ca 0, 6, .inl (fun _ => 0)))]) ++ ([(q77, .inl (ca 0, 115, .inl (fun _ => 0)))]) ++ ([(q86, .inl (ca 0, 4096, .inl (fun _ => 0)))]) ++ ([(q95, .inl (ca 2, 4096, .inr (.inl (fun _ => 0))))])) := hD
  refine lv_aload_n hx hb dX8_init_100 rfl (lv_at hl 0 rfl) ?_
  refine lv_bipush (v := (6)) hx hb dX8_init_101 (by decide) ?_
  refine va_newa (atype := .int) (n := 6) (N' := 6) (a0 := (6, .inl (fun _ => 0))) hx hb (hts _ k_X8_init_4) rfl hK.1 hP hD hS hA (fun _ => rfl) (by decide) (by decide) (Nat.le_of_ble_eq_true rfl) (Nat.le_of_ble_eq_true rfl) (Nat.le_of_ble_eq_true rfl) dX8_init_103 (fun q103 cA H hK1 hP hD hS => ?_)
  obtain rfl := ca_int hK1
  have hP : va_P D vwCl (([(h0, .inr (7, [.ref q7, .ref q16, .ref q23, .ref q32, .ref q40, .ref q49, .ref q56, .int 0, .long 0, .long 1, .int 0, .ref q69, .ref q77, .int 0, .ref q86, .ref q95, .null]))]) ++ ([(q7, .inl (ca 0, 6, .inl (fun _ => 0)))]) ++ ([(q16, .inl (ca 0, 240, .inl (fun _ => 0)))]) ++ ([(q23, .inl (ca 0, 4, .inl (fun _ => 0)))]) ++ ([(q32, .inl (ca 0, 320, .inl (fun _ => 0)))]) ++ ([(q40, .inl (ca 0, 115, .inl (fun _ => 0)))]) ++ ([(q49, .inl (ca 0, 345, .inl (fun _ => 0)))]) ++ ([(q56, .inl (ca 1, 3, .inl (fun _ => 0)))]) ++ ([(q69, .inl (ca 0, 6, .inl (fun _ => 0)))]) ++ ([(q77, .inl (ca 0, 115, .inl (fun _ => 0)))]) ++ ([(q86, .inl (ca 0, 4096, .inl (fun _ => 0)))]) ++ ([(q95, .inl (ca 2, 4096, .inr (.inl (fun _ => 0))))]) ++ ([(q103, .inl (ca 0, 6, .inl (fun _ => 0)))])) H := hP
  have hD : va_D A (([(h0, .inr (7, [.ref q7, .ref q16, .ref q23, .ref q32, .ref q40, .ref q49, .ref q56, .int 0, .long 0, .long 1, .int 0, .ref q69, .ref q77, .int 0, .ref q86, .ref q95, .null]))]) ++ ([(q7, .inl (ca 0, 6, .inl (fun _ => 0)))]) ++ ([(q16, .inl (ca 0, 240, .inl (fun _ => 0)))]) ++ ([(q23, .inl (ca 0, 4, .inl (fun _ => 0)))]) ++ ([(q32, .inl (ca 0, 320, .inl (fun _ => 0)))]) ++ ([(q40, .inl (ca 0, 115, .inl (fun _ => 0)))]) ++ ([(q49, .inl (ca 0, 345, .inl (fun _ => 0)))]) ++ ([(q56, .inl (ca 1, 3, .inl (fun _ => 0)))]) ++ ([(q69, .inl (ca 0, 6, .inl (fun _ => 0)))]) ++ ([(q77, .inl (ca 0, 115, .inl (fun _ => 0)))]) ++ ([(q86, .inl (ca 0, 4096, .inl (fun _ => 0)))]) ++ ([(q95, .inl (ca 2, 4096, .inr (.inl (fun _ => 0))))]) ++ ([(q103, .inl (ca 0, 6, .inl (fun _ => 0)))])) := hD
  refine W.widen (k := 12) (n := 9352) (Nat.le_of_ble_eq_true rfl) (Nat.le_of_ble_eq_true rfl) ?_
  refine va_putF (D := D) (ci := 7) (v := .ref q103) (ty := .array .int) (C := RX8) (T := TX8) (N := 17) hx hb hts hi_X8_init_X8 tyX8 tyX8_ok nmX8 hown hK.1 hP hD hS 0 rfl rfl 16 (by decide) (hts _ k_X8_init_19) (fun _ h9 => h9) rfl hin rfl (by decide +kernel) rfl rfl (Nat.le_of_ble_eq_true rfl) dX8_init_105 (fun H locs hP hD hS => ?_)
  have hP : va_P D vwCl (([(h0, .inr (7, [.ref q7, .ref q16, .ref q23, .ref q32, .ref q40, .ref q49, .ref q56, .int 0, .long 0, .long 1, .int 0, .ref q69, .ref q77, .int 0, .ref q86, .ref q95, .ref q103]))]) ++ ([(q7, .inl (ca 0, 6, .inl (fun _ => 0)))]) ++ ([(q16, .inl (ca 0, 240, .inl (fun _ => 0)))]) ++ ([(q23, .inl (ca 0, 4, .inl (fun _ => 0)))]) ++ ([(q32, .inl (ca 0, 320, .inl (fun _ => 0)))]) ++ ([(q40, .inl (ca 0, 115, .inl (fun _ => 0)))]) ++ ([(q49, .inl (ca 0, 345, .inl (fun _ => 0)))]) ++ ([(q56, .inl (ca 1, 3, .inl (fun _ => 0)))]) ++ ([(q69, .inl (ca 0, 6, .inl (fun _ => 0)))]) ++ ([(q77, .inl (ca 0, 115, .inl (fun _ => 0)))]) ++ ([(q86, .inl (ca 0, 4096, .inl (fun _ => 0)))]) ++ ([(q95, .inl (ca 2, 4096, .inr (.inl (fun _ => 0))))]) ++ ([(q103, .inl (ca 0, 6, .inl (fun _ => 0)))])) H := hP
  have hD : va_D A (([(h0, .inr (7, [.ref q7, .ref q16, .ref q23, .ref q32, .ref q40, .ref q49, .ref q56, .int 0, .long 0, .long 1, .int 0, .ref q69, .ref q77, .int 0, .ref q86, .ref q95, .ref q103]))]) ++ ([(q7, .inl (ca 0, 6, .inl (fun _ => 0)))]) ++ ([(q16, .inl (ca 0, 240, .inl (fun _ => 0)))]) ++ ([(q23, .inl (ca 0, 4, .inl (fun _ => 0)))]) ++ ([(q32, .inl (ca 0, 320, .inl (fun _ => 0)))]) ++ ([(q40, .inl (ca 0, 115, .inl (fun _ => 0)))]) ++ ([(q49, .inl (ca 0, 345, .inl (fun _ => 0)))]) ++ ([(q56, .inl (ca 1, 3, .inl (fun _ => 0)))]) ++ ([(q69, .inl (ca 0, 6, .inl (fun _ => 0)))]) ++ ([(q77, .inl (ca 0, 115, .inl (fun _ => 0)))]) ++ ([(q86, .inl (ca 0, 4096, .inl (fun _ => 0)))]) ++ ([(q95, .inl (ca 2, 4096, .inr (.inl (fun _ => 0))))]) ++ ([(q103, .inl (ca 0, 6, .inl (fun _ => 0)))])) := hD
  refine lv_iconst (v := (0)) hx hb dX8_init_108 (by decide) ?_
  refine lv_istore_n (lv' := [(1, .int 0), (0, .ref h0)]) hx hb dX8_init_109 rfl hl (by decide) rfl (fun ls hl => ?_)
  refine lv_iload_n hx hb dX8_init_110 rfl (lv_at hl 0 rfl) ?_
  refine lv_bipush (v := (6)) hx hb dX8_init_111 (by decide) ?_
  refine lv_icmp_ge (tgt := 129) hx hb dX8_init_113 (by decide) (fun hc => absurd hc (by decide)) (fun _ => ?_)
  refine lv_aload_n hx hb dX8_init_116 rfl (lv_at hl 1 rfl) ?_
  refine va_get (D := D) (ci := 7) (v := .ref q7) (C := RX8) (T := TX8) (N := 17) hx hb hts hi_X8_init_X8 hown hK.1 hP 0 rfl rfl 0 (by decide) (hts _ k_X8_init_5) (fun _ h9 => h9) rfl dX8_init_117 ?_
  refine lv_iload_n hx hb dX8_init_120 rfl (lv_at hl 0 rfl) ?_
  refine lv_iconst (v := (-1)) hx hb dX8_init_121 (by decide) ?_
  refine x_iast (ws' := ([(h0, .inr (7, [.ref q7, .ref q16, .ref q23, .ref q32, .ref q40, .ref q49, .ref q56, .int 0, .long 0, .long 1, .int 0, .ref q69, .ref q77, .int 0, .ref q86, .ref q95, .ref q103]))]) ++ ([(q7, .inl (ca 0, 6, .inl (upd (fun _ => 0) 0 (-1))))]) ++ ([(q16, .inl (ca 0, 240, .inl (fun _ => 0)))]) ++ ([(q23, .inl (ca 0, 4, .inl (fun _ => 0)))]) ++ ([(q32, .inl (ca 0, 320, .inl (fun _ => 0)))]) ++ ([(q40, .inl (ca 0, 115, .inl (fun _ => 0)))]) ++ ([(q49, .inl (ca 0, 345, .inl (fun _ => 0)))]) ++ ([(q56, .inl (ca 1, 3, .inl (fun _ => 0)))]) ++ ([(q69, .inl (ca 0, 6, .inl (fun _ => 0)))]) ++ ([(q77, .inl (ca 0, 115, .inl (fun _ => 0)))]) ++ ([(q86, .inl (ca 0, 4096, .inl (fun _ => 0)))]) ++ ([(q95, .inl (ca 2, 4096, .inr (.inl (fun _ => 0))))]) ++ ([(q103, .inl (ca 0, 6, .inl (fun _ => 0)))])) hx hb hK hP hD hS 1 rfl (vin_lit (by decide)) (k := 0) (by decide) rfl dX8_init_122 (fun H locs hP hD hS => ?_)
  refine lv_iinc (v := 1) (lv' := [(1, .int 1), (0, .ref h0)]) hx hb dX8_init_123 hl (k := 0) rfl (by decide) (by decide) rfl (fun ls hl => ?_)
  refine lv_goto (tgt := 110) hx hb dX8_init_126 (by decide) ?_
  refine lv_iload_n hx hb dX8_init_110 rfl (lv_at hl 0 rfl) ?_
  refine lv_bipush (v := (6)) hx hb dX8_init_111 (by decide) ?_
  refine lv_icmp_ge (tgt := 129) hx hb dX8_init_113 (by decide) (fun hc => absurd hc (by decide)) (fun _ => ?_)
  refine lv_aload_n hx hb dX8_init_116 rfl (lv_at hl 1 rfl) ?_
  refine va_get (D := D) (ci := 7) (v := .ref q7) (C := RX8) (T := TX8) (N := 17) hx hb hts hi_X8_init_X8 hown hK.1 hP 0 rfl rfl 0 (by decide) (hts _ k_X8_init_5) (fun _ h9 => h9) rfl dX8_init_117 ?_
  refine lv_iload_n hx hb dX8_init_120 rfl (lv_at hl 0 rfl) ?_
  refine lv_iconst (v := (-1)) hx hb dX8_init_121 (by decide) ?_
  refine x_iast (ws' := ([(h0, .inr (7, [.ref q7, .ref q16, .ref q23, .ref q32, .ref q40, .ref q49, .ref q56, .int 0, .long 0, .long 1, .int 0, .ref q69, .ref q77, .int 0, .ref q86, .ref q95, .ref q103]))]) ++ ([(q7, .inl (ca 0, 6, .inl (upd (upd (fun _ => 0) 0 (-1)) 1 (-1))))]) ++ ([(q16, .inl (ca 0, 240, .inl (fun _ => 0)))]) ++ ([(q23, .inl (ca 0, 4, .inl (fun _ => 0)))]) ++ ([(q32, .inl (ca 0, 320, .inl (fun _ => 0)))]) ++ ([(q40, .inl (ca 0, 115, .inl (fun _ => 0)))]) ++ ([(q49, .inl (ca 0, 345, .inl (fun _ => 0)))]) ++ ([(q56, .inl (ca 1, 3, .inl (fun _ => 0)))]) ++ ([(q69, .inl (ca 0, 6, .inl (fun _ => 0)))]) ++ ([(q77, .inl (ca 0, 115, .inl (fun _ => 0)))]) ++ ([(q86, .inl (ca 0, 4096, .inl (fun _ => 0)))]) ++ ([(q95, .inl (ca 2, 4096, .inr (.inl (fun _ => 0))))]) ++ ([(q103, .inl (ca 0, 6, .inl (fun _ => 0)))])) hx hb hK hP hD hS 1 rfl (vin_lit (by decide)) (k := 1) (by decide) rfl dX8_init_122 (fun H locs hP hD hS => ?_)
  refine lv_iinc (v := 2) (lv' := [(1, .int 2), (0, .ref h0)]) hx hb dX8_init_123 hl (k := 0) rfl (by decide) (by decide) rfl (fun ls hl => ?_)
  refine lv_goto (tgt := 110) hx hb dX8_init_126 (by decide) ?_
  refine lv_iload_n hx hb dX8_init_110 rfl (lv_at hl 0 rfl) ?_
  refine lv_bipush (v := (6)) hx hb dX8_init_111 (by decide) ?_
  refine lv_icmp_ge (tgt := 129) hx hb dX8_init_113 (by decide) (fun hc => absurd hc (by decide)) (fun _ => ?_)
  refine lv_aload_n hx hb dX8_init_116 rfl (lv_at hl 1 rfl) ?_
  refine va_get (D := D) (ci := 7) (v := .ref q7) (C := RX8) (T := TX8) (N := 17) hx hb hts hi_X8_init_X8 hown hK.1 hP 0 rfl rfl 0 (by decide) (hts _ k_X8_init_5) (fun _ h9 => h9) rfl dX8_init_117 ?_
  refine lv_iload_n hx hb dX8_init_120 rfl (lv_at hl 0 rfl) ?_
  refine lv_iconst (v := (-1)) hx hb dX8_init_121 (by decide) ?_
  refine x_iast (ws' := ([(h0, .inr (7, [.ref q7, .ref q16, .ref q23, .ref q32, .ref q40, .ref q49, .ref q56, .int 0, .long 0, .long 1, .int 0, .ref q69, .ref q77, .int 0, .ref q86, .ref q95, .ref q103]))]) ++ ([(q7, .inl (ca 0, 6, .inl (upd (upd (upd (fun _ => 0) 0 (-1)) 1 (-1)) 2 (-1))))]) ++ ([(q16, .inl (ca 0, 240, .inl (fun _ => 0)))]) ++ ([(q23, .inl (ca 0, 4, .inl (fun _ => 0)))]) ++ ([(q32, .inl (ca 0, 320, .inl (fun _ => 0)))]) ++ ([(q40, .inl (ca 0, 115, .inl (fun _ => 0)))]) ++ ([(q49, .inl (ca 0, 345, .inl (fun _ => 0)))]) ++ ([(q56, .inl (ca 1, 3, .inl (fun _ => 0)))]) ++ ([(q69, .inl (ca 0, 6, .inl (fun _ => 0)))]) ++ ([(q77, .inl (ca 0, 115, .inl (fun _ => 0)))]) ++ ([(q86, .inl (ca 0, 4096, .inl (fun _ => 0)))]) ++ ([(q95, .inl (ca 2, 4096, .inr (.inl (fun _ => 0))))]) ++ ([(q103, .inl (ca 0, 6, .inl (fun _ => 0)))])) hx hb hK hP hD hS 1 rfl (vin_lit (by decide)) (k := 2) (by decide) rfl dX8_init_122 (fun H locs hP hD hS => ?_)
  refine lv_iinc (v := 3) (lv' := [(1, .int 3), (0, .ref h0)]) hx hb dX8_init_123 hl (k := 0) rfl (by decide) (by decide) rfl (fun ls hl => ?_)
  refine lv_goto (tgt := 110) hx hb dX8_init_126 (by decide) ?_
  refine lv_iload_n hx hb dX8_init_110 rfl (lv_at hl 0 rfl) ?_
  refine lv_bipush (v := (6)) hx hb dX8_init_111 (by decide) ?_
  refine lv_icmp_ge (tgt := 129) hx hb dX8_init_113 (by decide) (fun hc => absurd hc (by decide)) (fun _ => ?_)
  refine lv_aload_n hx hb dX8_init_116 rfl (lv_at hl 1 rfl) ?_
  refine va_get (D := D) (ci := 7) (v := .ref q7) (C := RX8) (T := TX8) (N := 17) hx hb hts hi_X8_init_X8 hown hK.1 hP 0 rfl rfl 0 (by decide) (hts _ k_X8_init_5) (fun _ h9 => h9) rfl dX8_init_117 ?_
  refine lv_iload_n hx hb dX8_init_120 rfl (lv_at hl 0 rfl) ?_
  refine lv_iconst (v := (-1)) hx hb dX8_init_121 (by decide) ?_
  refine x_iast (ws' := ([(h0, .inr (7, [.ref q7, .ref q16, .ref q23, .ref q32, .ref q40, .ref q49, .ref q56, .int 0, .long 0, .long 1, .int 0, .ref q69, .ref q77, .int 0, .ref q86, .ref q95, .ref q103]))]) ++ ([(q7, .inl (ca 0, 6, .inl (upd (upd (upd (upd (fun _ => 0) 0 (-1)) 1 (-1)) 2 (-1)) 3 (-1))))]) ++ ([(q16, .inl (ca 0, 240, .inl (fun _ => 0)))]) ++ ([(q23, .inl (ca 0, 4, .inl (fun _ => 0)))]) ++ ([(q32, .inl (ca 0, 320, .inl (fun _ => 0)))]) ++ ([(q40, .inl (ca 0, 115, .inl (fun _ => 0)))]) ++ ([(q49, .inl (ca 0, 345, .inl (fun _ => 0)))]) ++ ([(q56, .inl (ca 1, 3, .inl (fun _ => 0)))]) ++ ([(q69, .inl (ca 0, 6, .inl (fun _ => 0)))]) ++ ([(q77, .inl (ca 0, 115, .inl (fun _ => 0)))]) ++ ([(q86, .inl (ca 0, 4096, .inl (fun _ => 0)))]) ++ ([(q95, .inl (ca 2, 4096, .inr (.inl (fun _ => 0))))]) ++ ([(q103, .inl (ca 0, 6, .inl (fun _ => 0)))])) hx hb hK hP hD hS 1 rfl (vin_lit (by decide)) (k := 3) (by decide) rfl dX8_init_122 (fun H locs hP hD hS => ?_)
  refine lv_iinc (v := 4) (lv' := [(1, .int 4), (0, .ref h0)]) hx hb dX8_init_123 hl (k := 0) rfl (by decide) (by decide) rfl (fun ls hl => ?_)
  refine lv_goto (tgt := 110) hx hb dX8_init_126 (by decide) ?_
  refine lv_iload_n hx hb dX8_init_110 rfl (lv_at hl 0 rfl) ?_
  refine lv_bipush (v := (6)) hx hb dX8_init_111 (by decide) ?_
  refine lv_icmp_ge (tgt := 129) hx hb dX8_init_113 (by decide) (fun hc => absurd hc (by decide)) (fun _ => ?_)
  refine lv_aload_n hx hb dX8_init_116 rfl (lv_at hl 1 rfl) ?_
  refine va_get (D := D) (ci := 7) (v := .ref q7) (C := RX8) (T := TX8) (N := 17) hx hb hts hi_X8_init_X8 hown hK.1 hP 0 rfl rfl 0 (by decide) (hts _ k_X8_init_5) (fun _ h9 => h9) rfl dX8_init_117 ?_
  refine lv_iload_n hx hb dX8_init_120 rfl (lv_at hl 0 rfl) ?_
  refine lv_iconst (v := (-1)) hx hb dX8_init_121 (by decide) ?_
  refine x_iast (ws' := ([(h0, .inr (7, [.ref q7, .ref q16, .ref q23, .ref q32, .ref q40, .ref q49, .ref q56, .int 0, .long 0, .long 1, .int 0, .ref q69, .ref q77, .int 0, .ref q86, .ref q95, .ref q103]))]) ++ ([(q7, .inl (ca 0, 6, .inl (upd (upd (upd (upd (upd (fun _ => 0) 0 (-1)) 1 (-1)) 2 (-1)) 3 (-1)) 4 (-1))))]) ++ ([(q16, .inl (ca 0, 240, .inl (fun _ => 0)))]) ++ ([(q23, .inl (ca 0, 4, .inl (fun _ => 0)))]) ++ ([(q32, .inl (ca 0, 320, .inl (fun _ => 0)))]) ++ ([(q40, .inl (ca 0, 115, .inl (fun _ => 0)))]) ++ ([(q49, .inl (ca 0, 345, .inl (fun _ => 0)))]) ++ ([(q56, .inl (ca 1, 3, .inl (fun _ => 0)))]) ++ ([(q69, .inl (ca 0, 6, .inl (fun _ => 0)))]) ++ ([(q77, .inl (ca 0, 115, .inl (fun _ => 0)))]) ++ ([(q86, .inl (ca 0, 4096, .inl (fun _ => 0)))]) ++ ([(q95, .inl (ca 2, 4096, .inr (.inl (fun _ => 0))))]) ++ ([(q103, .inl (ca 0, 6, .inl (fun _ => 0)))])) hx hb hK hP hD hS 1 rfl (vin_lit (by decide)) (k := 4) (by decide) rfl dX8_init_122 (fun H locs hP hD hS => ?_)
  refine lv_iinc (v := 5) (lv' := [(1, .int 5), (0, .ref h0)]) hx hb dX8_init_123 hl (k := 0) rfl (by decide) (by decide) rfl (fun ls hl => ?_)
  refine lv_goto (tgt := 110) hx hb dX8_init_126 (by decide) ?_
  refine lv_iload_n hx hb dX8_init_110 rfl (lv_at hl 0 rfl) ?_
  refine lv_bipush (v := (6)) hx hb dX8_init_111 (by decide) ?_
  refine lv_icmp_ge (tgt := 129) hx hb dX8_init_113 (by decide) (fun hc => absurd hc (by decide)) (fun _ => ?_)
  refine lv_aload_n hx hb dX8_init_116 rfl (lv_at hl 1 rfl) ?_
  refine va_get (D := D) (ci := 7) (v := .ref q7) (C := RX8) (T := TX8) (N := 17) hx hb hts hi_X8_init_X8 hown hK.1 hP 0 rfl rfl 0 (by decide) (hts _ k_X8_init_5) (fun _ h9 => h9) rfl dX8_init_117 ?_
  refine lv_iload_n hx hb dX8_init_120 rfl (lv_at hl 0 rfl) ?_
  refine lv_iconst (v := (-1)) hx hb dX8_init_121 (by decide) ?_
  refine x_iast (ws' := ([(h0, .inr (7, [.ref q7, .ref q16, .ref q23, .ref q32, .ref q40, .ref q49, .ref q56, .int 0, .long 0, .long 1, .int 0, .ref q69, .ref q77, .int 0, .ref q86, .ref q95, .ref q103]))]) ++ ([(q7, .inl (ca 0, 6, .inl (upd (upd (upd (upd (upd (upd (fun _ => 0) 0 (-1)) 1 (-1)) 2 (-1)) 3 (-1)) 4 (-1)) 5 (-1))))]) ++ ([(q16, .inl (ca 0, 240, .inl (fun _ => 0)))]) ++ ([(q23, .inl (ca 0, 4, .inl (fun _ => 0)))]) ++ ([(q32, .inl (ca 0, 320, .inl (fun _ => 0)))]) ++ ([(q40, .inl (ca 0, 115, .inl (fun _ => 0)))]) ++ ([(q49, .inl (ca 0, 345, .inl (fun _ => 0)))]) ++ ([(q56, .inl (ca 1, 3, .inl (fun _ => 0)))]) ++ ([(q69, .inl (ca 0, 6, .inl (fun _ => 0)))]) ++ ([(q77, .inl (ca 0, 115, .inl (fun _ => 0)))]) ++ ([(q86, .inl (ca 0, 4096, .inl (fun _ => 0)))]) ++ ([(q95, .inl (ca 2, 4096, .inr (.inl (fun _ => 0))))]) ++ ([(q103, .inl (ca 0, 6, .inl (fun _ => 0)))])) hx hb hK hP hD hS 1 rfl (vin_lit (by decide)) (k := 5) (by decide) rfl dX8_init_122 (fun H locs hP hD hS => ?_)
  refine lv_iinc (v := 6) (lv' := [(1, .int 6), (0, .ref h0)]) hx hb dX8_init_123 hl (k := 0) rfl (by decide) (by decide) rfl (fun ls hl => ?_)
  refine lv_goto (tgt := 110) hx hb dX8_init_126 (by decide) ?_
  refine lv_iload_n hx hb dX8_init_110 rfl (lv_at hl 0 rfl) ?_
  refine lv_bipush (v := (6)) hx hb dX8_init_111 (by decide) ?_
  refine lv_icmp_ge (tgt := 129) hx hb dX8_init_113 (by decide) (fun _ => ?_) (fun hc => absurd (by decide) hc)
  refine lv_iconst (v := (0)) hx hb dX8_init_129 (by decide) ?_
  refine lv_istore_n (lv' := [(1, .int 0), (0, .ref h0)]) hx hb dX8_init_130 rfl hl (by decide) rfl (fun ls hl => ?_)
  refine lv_iload_n hx hb dX8_init_131 rfl (lv_at hl 0 rfl) ?_
  refine lv_iconst (v := (4)) hx hb dX8_init_132 (by decide) ?_
  refine lv_icmp_ge (tgt := 149) hx hb dX8_init_133 (by decide) (fun hc => absurd hc (by decide)) (fun _ => ?_)
  refine lv_aload_n hx hb dX8_init_136 rfl (lv_at hl 1 rfl) ?_
  refine va_get (D := D) (ci := 7) (v := .ref q23) (C := RX8) (T := TX8) (N := 17) hx hb hts hi_X8_init_X8 hown hK.1 hP 0 rfl rfl 2 (by decide) (hts _ k_X8_init_7) (fun _ h9 => h9) rfl dX8_init_137 ?_
  refine lv_iload_n hx hb dX8_init_140 rfl (lv_at hl 0 rfl) ?_
  refine lv_iconst (v := (-1)) hx hb dX8_init_141 (by decide) ?_
  refine x_iast (ws' := ([(h0, .inr (7, [.ref q7, .ref q16, .ref q23, .ref q32, .ref q40, .ref q49, .ref q56, .int 0, .long 0, .long 1, .int 0, .ref q69, .ref q77, .int 0, .ref q86, .ref q95, .ref q103]))]) ++ ([(q7, .inl (ca 0, 6, .inl (upd (upd (upd (upd (upd (upd (fun _ => 0) 0 (-1)) 1 (-1)) 2 (-1)) 3 (-1)) 4 (-1)) 5 (-1))))]) ++ ([(q16, .inl (ca 0, 240, .inl (fun _ => 0)))]) ++ ([(q23, .inl (ca 0, 4, .inl (upd (fun _ => 0) 0 (-1))))]) ++ ([(q32, .inl (ca 0, 320, .inl (fun _ => 0)))]) ++ ([(q40, .inl (ca 0, 115, .inl (fun _ => 0)))]) ++ ([(q49, .inl (ca 0, 345, .inl (fun _ => 0)))]) ++ ([(q56, .inl (ca 1, 3, .inl (fun _ => 0)))]) ++ ([(q69, .inl (ca 0, 6, .inl (fun _ => 0)))]) ++ ([(q77, .inl (ca 0, 115, .inl (fun _ => 0)))]) ++ ([(q86, .inl (ca 0, 4096, .inl (fun _ => 0)))]) ++ ([(q95, .inl (ca 2, 4096, .inr (.inl (fun _ => 0))))]) ++ ([(q103, .inl (ca 0, 6, .inl (fun _ => 0)))])) hx hb hK hP hD hS 3 rfl (vin_lit (by decide)) (k := 0) (by decide) rfl dX8_init_142 (fun H locs hP hD hS => ?_)
  refine lv_iinc (v := 1) (lv' := [(1, .int 1), (0, .ref h0)]) hx hb dX8_init_143 hl (k := 0) rfl (by decide) (by decide) rfl (fun ls hl => ?_)
  refine lv_goto (tgt := 131) hx hb dX8_init_146 (by decide) ?_
  refine lv_iload_n hx hb dX8_init_131 rfl (lv_at hl 0 rfl) ?_
  refine lv_iconst (v := (4)) hx hb dX8_init_132 (by decide) ?_
  refine lv_icmp_ge (tgt := 149) hx hb dX8_init_133 (by decide) (fun hc => absurd hc (by decide)) (fun _ => ?_)
  refine lv_aload_n hx hb dX8_init_136 rfl (lv_at hl 1 rfl) ?_
  refine va_get (D := D) (ci := 7) (v := .ref q23) (C := RX8) (T := TX8) (N := 17) hx hb hts hi_X8_init_X8 hown hK.1 hP 0 rfl rfl 2 (by decide) (hts _ k_X8_init_7) (fun _ h9 => h9) rfl dX8_init_137 ?_
  refine lv_iload_n hx hb dX8_init_140 rfl (lv_at hl 0 rfl) ?_
  refine lv_iconst (v := (-1)) hx hb dX8_init_141 (by decide) ?_
  refine x_iast (ws' := ([(h0, .inr (7, [.ref q7, .ref q16, .ref q23, .ref q32, .ref q40, .ref q49, .ref q56, .int 0, .long 0, .long 1, .int 0, .ref q69, .ref q77, .int 0, .ref q86, .ref q95, .ref q103]))]) ++ ([(q7, .inl (ca 0, 6, .inl (upd (upd (upd (upd (upd (upd (fun _ => 0) 0 (-1)) 1 (-1)) 2 (-1)) 3 (-1)) 4 (-1)) 5 (-1))))]) ++ ([(q16, .inl (ca 0, 240, .inl (fun _ => 0)))]) ++ ([(q23, .inl (ca 0, 4, .inl (upd (upd (fun _ => 0) 0 (-1)) 1 (-1))))]) ++ ([(q32, .inl (ca 0, 320, .inl (fun _ => 0)))]) ++ ([(q40, .inl (ca 0, 115, .inl (fun _ => 0)))]) ++ ([(q49, .inl (ca 0, 345, .inl (fun _ => 0)))]) ++ ([(q56, .inl (ca 1, 3, .inl (fun _ => 0)))]) ++ ([(q69, .inl (ca 0, 6, .inl (fun _ => 0)))]) ++ ([(q77, .inl (ca 0, 115, .inl (fun _ => 0)))]) ++ ([(q86, .inl (ca 0, 4096, .inl (fun _ => 0)))]) ++ ([(q95, .inl (ca 2, 4096, .inr (.inl (fun _ => 0))))]) ++ ([(q103, .inl (ca 0, 6, .inl (fun _ => 0)))])) hx hb hK hP hD hS 3 rfl (vin_lit (by decide)) (k := 1) (by decide) rfl dX8_init_142 (fun H locs hP hD hS => ?_)
  refine lv_iinc (v := 2) (lv' := [(1, .int 2), (0, .ref h0)]) hx hb dX8_init_143 hl (k := 0) rfl (by decide) (by decide) rfl (fun ls hl => ?_)
  refine lv_goto (tgt := 131) hx hb dX8_init_146 (by decide) ?_
  refine lv_iload_n hx hb dX8_init_131 rfl (lv_at hl 0 rfl) ?_
  refine lv_iconst (v := (4)) hx hb dX8_init_132 (by decide) ?_
  refine lv_icmp_ge (tgt := 149) hx hb dX8_init_133 (by decide) (fun hc => absurd hc (by decide)) (fun _ => ?_)
  refine lv_aload_n hx hb dX8_init_136 rfl (lv_at hl 1 rfl) ?_
  refine va_get (D := D) (ci := 7) (v := .ref q23) (C := RX8) (T := TX8) (N := 17) hx hb hts hi_X8_init_X8 hown hK.1 hP 0 rfl rfl 2 (by decide) (hts _ k_X8_init_7) (fun _ h9 => h9) rfl dX8_init_137 ?_
  refine lv_iload_n hx hb dX8_init_140 rfl (lv_at hl 0 rfl) ?_
  refine lv_iconst (v := (-1)) hx hb dX8_init_141 (by decide) ?_
  refine x_iast (ws' := ([(h0, .inr (7, [.ref q7, .ref q16, .ref q23, .ref q32, .ref q40, .ref q49, .ref q56, .int 0, .long 0, .long 1, .int 0, .ref q69, .ref q77, .int 0, .ref q86, .ref q95, .ref q103]))]) ++ ([(q7, .inl (ca 0, 6, .inl (upd (upd (upd (upd (upd (upd (fun _ => 0) 0 (-1)) 1 (-1)) 2 (-1)) 3 (-1)) 4 (-1)) 5 (-1))))]) ++ ([(q16, .inl (ca 0, 240, .inl (fun _ => 0)))]) ++ ([(q23, .inl (ca 0, 4, .inl (upd (upd (upd (fun _ => 0) 0 (-1)) 1 (-1)) 2 (-1))))]) ++ ([(q32, .inl (ca 0, 320, .inl (fun _ => 0)))]) ++ ([(q40, .inl (ca 0, 115, .inl (fun _ => 0)))]) ++ ([(q49, .inl (ca 0, 345, .inl (fun _ => 0)))]) ++ ([(q56, .inl (ca 1, 3, .inl (fun _ => 0)))]) ++ ([(q69, .inl (ca 0, 6, .inl (fun _ => 0)))]) ++ ([(q77, .inl (ca 0, 115, .inl (fun _ => 0)))]) ++ ([(q86, .inl (ca 0, 4096, .inl (fun _ => 0)))]) ++ ([(q95, .inl (ca 2, 4096, .inr (.inl (fun _ => 0))))]) ++ ([(q103, .inl (ca 0, 6, .inl (fun _ => 0)))])) hx hb hK hP hD hS 3 rfl (vin_lit (by decide)) (k := 2) (by decide) rfl dX8_init_142 (fun H locs hP hD hS => ?_)
  refine lv_iinc (v := 3) (lv' := [(1, .int 3), (0, .ref h0)]) hx hb dX8_init_143 hl (k := 0) rfl (by decide) (by decide) rfl (fun ls hl => ?_)
  refine lv_goto (tgt := 131) hx hb dX8_init_146 (by decide) ?_
  refine lv_iload_n hx hb dX8_init_131 rfl (lv_at hl 0 rfl) ?_
  refine lv_iconst (v := (4)) hx hb dX8_init_132 (by decide) ?_
  refine lv_icmp_ge (tgt := 149) hx hb dX8_init_133 (by decide) (fun hc => absurd hc (by decide)) (fun _ => ?_)
  refine lv_aload_n hx hb dX8_init_136 rfl (lv_at hl 1 rfl) ?_
  refine va_get (D := D) (ci := 7) (v := .ref q23) (C := RX8) (T := TX8) (N := 17) hx hb hts hi_X8_init_X8 hown hK.1 hP 0 rfl rfl 2 (by decide) (hts _ k_X8_init_7) (fun _ h9 => h9) rfl dX8_init_137 ?_
  refine lv_iload_n hx hb dX8_init_140 rfl (lv_at hl 0 rfl) ?_
  refine lv_iconst (v := (-1)) hx hb dX8_init_141 (by decide) ?_
  refine x_iast (ws' := ([(h0, .inr (7, [.ref q7, .ref q16, .ref q23, .ref q32, .ref q40, .ref q49, .ref q56, .int 0, .long 0, .long 1, .int 0, .ref q69, .ref q77, .int 0, .ref q86, .ref q95, .ref q103]))]) ++ ([(q7, .inl (ca 0, 6, .inl (upd (upd (upd (upd (upd (upd (fun _ => 0) 0 (-1)) 1 (-1)) 2 (-1)) 3 (-1)) 4 (-1)) 5 (-1))))]) ++ ([(q16, .inl (ca 0, 240, .inl (fun _ => 0)))]) ++ ([(q23, .inl (ca 0, 4, .inl (upd (upd (upd (upd (fun _ => 0) 0 (-1)) 1 (-1)) 2 (-1)) 3 (-1))))]) ++ ([(q32, .inl (ca 0, 320, .inl (fun _ => 0)))]) ++ ([(q40, .inl (ca 0, 115, .inl (fun _ => 0)))]) ++ ([(q49, .inl (ca 0, 345, .inl (fun _ => 0)))]) ++ ([(q56, .inl (ca 1, 3, .inl (fun _ => 0)))]) ++ ([(q69, .inl (ca 0, 6, .inl (fun _ => 0)))]) ++ ([(q77, .inl (ca 0, 115, .inl (fun _ => 0)))]) ++ ([(q86, .inl (ca 0, 4096, .inl (fun _ => 0)))]) ++ ([(q95, .inl (ca 2, 4096, .inr (.inl (fun _ => 0))))]) ++ ([(q103, .inl (ca 0, 6, .inl (fun _ => 0)))])) hx hb hK hP hD hS 3 rfl (vin_lit (by decide)) (k := 3) (by decide) rfl dX8_init_142 (fun H locs hP hD hS => ?_)
  refine lv_iinc (v := 4) (lv' := [(1, .int 4), (0, .ref h0)]) hx hb dX8_init_143 hl (k := 0) rfl (by decide) (by decide) rfl (fun ls hl => ?_)
  refine lv_goto (tgt := 131) hx hb dX8_init_146 (by decide) ?_
  refine lv_iload_n hx hb dX8_init_131 rfl (lv_at hl 0 rfl) ?_
  refine lv_iconst (v := (4)) hx hb dX8_init_132 (by decide) ?_
  refine lv_icmp_ge (tgt := 149) hx hb dX8_init_133 (by decide) (fun _ => ?_) (fun hc => absurd (by decide) hc)
  exact W.vret hx hb hr (fun zt ht hW => ⟨⟨((fun k => [h0, q7, q16, q23, q32, q40, q49, q56, q69, q77, q86, q95, q103].getD k 0), (upd (upd (upd (upd (upd (upd (fun _ => 0) 0 (-1)) 1 (-1)) 2 (-1)) 3 (-1)) 4 (-1)) 5 (-1)), (upd (upd (upd (upd (fun _ => 0) 0 (-1)) 1 (-1)) 2 (-1)) 3 (-1))), rfl, ⟨rfl, (fun j hj => by rcases (show j = 0 ∨ j = 1 ∨ j = 2 ∨ j = 3 ∨ j = 4 ∨ j = 5 by omega) with rfl | rfl | rfl | rfl | rfl | rfl <;> rfl), (fun j hj => by rcases (show j = 0 ∨ j = 1 ∨ j = 2 ∨ j = 3 by omega) with rfl | rfl | rfl | rfl <;> rfl)⟩, by rw [ht]; exact hP, hD⟩, hS.F ht⟩) hS.2.2 dX8_init_149
