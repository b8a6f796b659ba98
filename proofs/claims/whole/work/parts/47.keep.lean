/-! kept heaps: keep, on, digest -/
section XR2
variable {p : Program} {l : Launch} {e : Env} {R : Room} {s : State} {m : MethodId} {args : Array Value} {below : List Frame} {meth : Method} {c : Code} {H : Heap} {locs : List Loc} {cells slots : Nat} {Q : State → Prop}
variable {cc : ByteArray} {pc : Nat} {ls : Array Slot} {rest : List Value} {D : va_G} {ca : Nat → ClassId} {a : Nat} {ws : va_W}
theorem x_aldS (hexec : p.tables.exec = Jvm.exec) (hb : c.code = cc) (hK : KX D ca s) (hP : va_P D vwCl ws H) (q0 : Nat) {n : Nat} {f : Nat → Option Nat} (ha : ws[q0]? = some (a, .inl (ca 3, n, .inr (.inr (.inr (.inr f)))))) {i : Int32} (hin : vp_in i n) {y : Nat} (hf : f i.toNatClampNeg = some y) (hdg : decode cc pc = .ok (.aaload, 1))
    (kk : W p l e R s m args below meth c H locs cells slots Q (F0 m (pc + 1) ls (.ref y :: rest))) : W p l e R s m args below meth c H locs cells slots Q (F0 m pc ls (.int i :: .ref a :: rest)) :=
  x_aldq hexec hb hK hP q0 ha hin hdg (by rw [hf]; exact kk)
theorem x_astoreq_n (hexec : p.tables.exec = Jvm.exec) (hb : c.code = cc) {k : Fin 4} {i nL : Nat} {x : Option Nat} {lv lv' : List (Nat × Value)} (hdg : decode cc pc = .ok (.astore_n k, 1)) (hi : (k : Nat) = i) (h : lv_has ls nL lv) (hn : i < nL) (hl : (i, va_rf x) :: lv.filter (fun q => !(q.1 == i) && !(q.1 + 1 == i && q.2.category == 2)) = lv')
    (kk : ∀ ls' : Array Slot, lv_has ls' nL lv' → W p l e R s m args below meth c H locs cells slots Q (F0 m (pc + 1) ls' rest)) : W p l e R s m args below meth c H locs cells slots Q (F0 m pc ls (va_rf x :: rest)) := by
  cases x with
  | none => exact lv_astore_nN hexec hb hdg hi h hn hl kk
  | some y => exact lv_astore_n hexec hb hdg hi h hn hl kk
theorem x_astoreq (hexec : p.tables.exec = Jvm.exec) (hb : c.code = cc) {i nL : Nat} {x : Option Nat} {lv lv' : List (Nat × Value)} (hdg : decode cc pc = .ok (.astore i, 2)) (h : lv_has ls nL lv) (hn : i < nL) (hl : (i, va_rf x) :: lv.filter (fun q => !(q.1 == i) && !(q.1 + 1 == i && q.2.category == 2)) = lv')
    (kk : ∀ ls' : Array Slot, lv_has ls' nL lv' → W p l e R s m args below meth c H locs cells slots Q (F0 m (pc + 2) ls' rest)) : W p l e R s m args below meth c H locs cells slots Q (F0 m pc ls (va_rf x :: rest)) := by
  cases x with
  | none => exact lv_astoreN hexec hb hdg h hn hl kk
  | some y => exact lv_astore hexec hb hdg h hn hl kk
theorem x_aloadq_n (hexec : p.tables.exec = Jvm.exec) (hb : c.code = cc) {k : Fin 4} {i : Nat} {x : Option Nat} (hdg : decode cc pc = .ok (.aload_n k, 1)) (hi : (k : Nat) = i) (hl : ls[i]? = some (.val (va_rf x)))
    (kk : W p l e R s m args below meth c H locs cells slots Q (F0 m (pc + 1) ls (va_rf x :: rest))) : W p l e R s m args below meth c H locs cells slots Q (F0 m pc ls (rest)) := by
  cases x with
  | none => exact lv_aload_nN hexec hb hdg hi hl kk
  | some y => exact lv_aload_n hexec hb hdg hi hl kk
theorem x_aloadq (hexec : p.tables.exec = Jvm.exec) (hb : c.code = cc) {i : Nat} {x : Option Nat} (hdg : decode cc pc = .ok (.aload i, 2)) (hl : ls[i]? = some (.val (va_rf x)))
    (kk : W p l e R s m args below meth c H locs cells slots Q (F0 m (pc + 2) ls (va_rf x :: rest))) : W p l e R s m args below meth c H locs cells slots Q (F0 m pc ls (rest)) := by
  cases x with
  | none => exact lv_aloadN hexec hb hdg hl kk
  | some y => exact lv_aload hexec hb hdg hl kk
end XR2
/-- the kept heaps lie where they are told, with so many deeds -/
def KQ (D : va_G) (ca : Nat → ClassId) (kept : Nat → Option Nat) (kd : Nat → Int32) (H : Heap) : Prop := ∀ k, k < 3 → ∀ y, kept k = some y → ∃ (ap : Nat → Nat) (pk pw pt po pg pr pd : Nat → Int32) (pn ps : Int32), ap 0 = y ∧ va_P D vwCl (W_X1 ca ap pk pw pt po pg pr pd pn ps (kd k)) H
def PcQ (kept : Nat → Option Nat) (kd : Nat → Int32) (D : va_G) (ca : Nat → ClassId) (av : List Value) (ws : va_W) : Array Value → State → Prop := va_Pc av (fun U => va_P D vwCl ws U.heap ∧ KX D ca U ∧ KQ D ca kept kd U.heap)
theorem PcQ.preV {kept : Nat → Option Nat} {kd : Nat → Int32} {D : va_G} {ca : Nat → ClassId} {ws wc : va_W} {s : State} {H : Heap} {As : List Value} {b q0 ci : Nat} {q : vw_C} {fs : List Value} (hK : KX D ca s) (hQ : KQ D ca kept kd H) (hPw : va_P D vwCl ws H) (hc : vwCl[ci]? = some q) (he : ws[q0]? = some (b, .inr (ci, fs))) (hP : va_P D vwCl wc H) : PreV s H q.1 b (PcQ kept kd D ca (.ref b :: As) wc) As := ⟨fun a U g mk q => ⟨q.1, q.2.1, KX.same (u := U) (U := U.calling g mk a) rfl q.2.2.1, q.2.2.2⟩, va_recv hK.1 hPw hc he, fun U hU hW => ⟨rfl, by rw [hU]; exact hP, hK.warm hW, by rw [hU]; exact hQ⟩⟩
-- IronedQuarrels.digest()J
def wb_X7_digest_86 (rows_ns : Nat) (rows_nc : Nat) (rows_width : Int32) (rows_sizes : Nat → Int32) (rows_cells : Nat → Int32) (texts_ns : Nat) (texts_nc : Nat) (texts_width : Int32) (texts_sizes : Nat → Int32) (texts_cells : Nat → Int32) (kept : Nat → Option Nat) (kd : Nat → Int32) (post : Int64 → Prop) (K86 : (Int64) → (Int32) → Prop) (x1 : Int64) (x3 : Int32) : Prop :=
  ((3 : Int32) ≤ x3 → (wp_X5_digestFrom rows_ns rows_nc rows_width rows_sizes rows_cells x1 (fun r2 => wp_X5_digestFrom texts_ns texts_nc texts_width texts_sizes texts_cells r2 (fun r3 => post r3)))) ∧ (¬ (3 : Int32) ≤ x3 → (vp_in x3 3 ∧ (¬ (kept x3.toNatClampNeg) = none → (K86 (((31 : Int64) * x1) + ((kd (x3.toNatClampNeg)).toInt64)) (x3 + 1))) ∧ ((kept x3.toNatClampNeg) = none → (K86 (((31 : Int64) * x1) + ((-1 : Int32).toInt64)) (x3 + 1)))))
def wl_X7_digest_86 (rows_ns : Nat) (rows_nc : Nat) (rows_width : Int32) (rows_sizes : Nat → Int32) (rows_cells : Nat → Int32) (texts_ns : Nat) (texts_nc : Nat) (texts_width : Int32) (texts_sizes : Nat → Int32) (texts_cells : Nat → Int32) (kept : Nat → Option Nat) (kd : Nat → Int32) (post : Int64 → Prop) : Nat → (Int64) → (Int32) → Prop
  | 0 => fun _ _ => False
  | zn + 1 => wb_X7_digest_86 rows_ns rows_nc rows_width rows_sizes rows_cells texts_ns texts_nc texts_width texts_sizes texts_cells kept kd post (wl_X7_digest_86 rows_ns rows_nc rows_width rows_sizes rows_cells texts_ns texts_nc texts_width texts_sizes texts_cells kept kd post zn)
def wb_X7_digest_47 (heap_kinds : Nat → Int32) (heap_whos : Nat → Int32) (heap_toWhoms : Nat → Int32) (heap_topics : Nat → Int32) (heap_weights : Nat → Int32) (heap_answered : Nat → Int32) (heap_size : Int32) (heap_saidBits : Int32) (K33 : (Int64) → (Int32) → Prop) (K47 : (Int64) → (Int32) → (Int32) → Prop) (x1 : Int64) (x3 : Int32) (x4 : Int32) : Prop :=
  ((8 : Int32) ≤ x4 → (K33 x1 (x3 + 1))) ∧ (¬ (8 : Int32) ≤ x4 → (wp_X1_fact heap_kinds heap_whos heap_toWhoms heap_topics heap_weights heap_answered heap_size heap_saidBits x3 x4 (fun r4 => K47 (((31 : Int64) * x1) + r4.toInt64) x3 (x4 + 1))))
def wl_X7_digest_47 (heap_kinds : Nat → Int32) (heap_whos : Nat → Int32) (heap_toWhoms : Nat → Int32) (heap_topics : Nat → Int32) (heap_weights : Nat → Int32) (heap_answered : Nat → Int32) (heap_size : Int32) (heap_saidBits : Int32) (K33 : (Int64) → (Int32) → Prop) : Nat → (Int64) → (Int32) → (Int32) → Prop
  | 0 => fun _ _ _ => False
  | zn + 1 => wb_X7_digest_47 heap_kinds heap_whos heap_toWhoms heap_topics heap_weights heap_answered heap_size heap_saidBits K33 (wl_X7_digest_47 heap_kinds heap_whos heap_toWhoms heap_topics heap_weights heap_answered heap_size heap_saidBits K33 zn)
def wb_X7_digest_33 (rows_ns : Nat) (rows_nc : Nat) (rows_width : Int32) (rows_sizes : Nat → Int32) (rows_cells : Nat → Int32) (texts_ns : Nat) (texts_nc : Nat) (texts_width : Int32) (texts_sizes : Nat → Int32) (texts_cells : Nat → Int32) (heap_kinds : Nat → Int32) (heap_whos : Nat → Int32) (heap_toWhoms : Nat → Int32) (heap_topics : Nat → Int32) (heap_weights : Nat → Int32) (heap_answered : Nat → Int32) (heap_size : Int32) (heap_saidBits : Int32) (kept : Nat → Option Nat) (kd : Nat → Int32) (post : Int64 → Prop) (K33 : (Int64) → (Int32) → Prop) (x1 : Int64) (x3 : Int32) : Prop :=
  wp_X1_howMany heap_size (fun r1 => (r1 ≤ x3 → (∃ zn, wl_X7_digest_86 rows_ns rows_nc rows_width rows_sizes rows_cells texts_ns texts_nc texts_width texts_sizes texts_cells kept kd post zn x1 (0 : Int32))) ∧ (¬ r1 ≤ x3 → (∃ zn, wl_X7_digest_47 heap_kinds heap_whos heap_toWhoms heap_topics heap_weights heap_answered heap_size heap_saidBits K33 zn x1 x3 (0 : Int32))))
def wl_X7_digest_33 (rows_ns : Nat) (rows_nc : Nat) (rows_width : Int32) (rows_sizes : Nat → Int32) (rows_cells : Nat → Int32) (texts_ns : Nat) (texts_nc : Nat) (texts_width : Int32) (texts_sizes : Nat → Int32) (texts_cells : Nat → Int32) (heap_kinds : Nat → Int32) (heap_whos : Nat → Int32) (heap_toWhoms : Nat → Int32) (heap_topics : Nat → Int32) (heap_weights : Nat → Int32) (heap_answered : Nat → Int32) (heap_size : Int32) (heap_saidBits : Int32) (kept : Nat → Option Nat) (kd : Nat → Int32) (post : Int64 → Prop) : Nat → (Int64) → (Int32) → Prop
  | 0 => fun _ _ => False
  | zn + 1 => wb_X7_digest_33 rows_ns rows_nc rows_width rows_sizes rows_cells texts_ns texts_nc texts_width texts_sizes texts_cells heap_kinds heap_whos heap_toWhoms heap_topics heap_weights heap_answered heap_size heap_saidBits kept kd post (wl_X7_digest_33 rows_ns rows_nc rows_width rows_sizes rows_cells texts_ns texts_nc texts_width texts_sizes texts_cells heap_kinds heap_whos heap_toWhoms heap_topics heap_weights heap_answered heap_size heap_saidBits kept kd post zn)
def wb_X7_digest_6 (rows_ns : Nat) (rows_nc : Nat) (rows_width : Int32) (rows_sizes : Nat → Int32) (rows_cells : Nat → Int32) (texts_ns : Nat) (texts_nc : Nat) (texts_width : Int32) (texts_sizes : Nat → Int32) (texts_cells : Nat → Int32) (heap_kinds : Nat → Int32) (heap_whos : Nat → Int32) (heap_toWhoms : Nat → Int32) (heap_topics : Nat → Int32) (heap_weights : Nat → Int32) (heap_answered : Nat → Int32) (heap_size : Int32) (heap_saidBits : Int32) (heap_deedCount : Int32) (kept : Nat → Option Nat) (kd : Nat → Int32) (post : Int64 → Prop) (K6 : (Int64) → (Int32) → Prop) (x1 : Int64) (x3 : Int32) : Prop :=
  ((9 : Int32) ≤ x3 → (∃ zn, wl_X7_digest_33 rows_ns rows_nc rows_width rows_sizes rows_cells texts_ns texts_nc texts_width texts_sizes texts_cells heap_kinds heap_whos heap_toWhoms heap_topics heap_weights heap_answered heap_size heap_saidBits kept kd post zn x1 (0 : Int32))) ∧ (¬ (9 : Int32) ≤ x3 → (wp_X7_count rows_ns rows_sizes texts_ns texts_sizes heap_kinds heap_whos heap_toWhoms heap_topics heap_weights heap_answered heap_size heap_saidBits heap_deedCount kept x3 (fun r5 => K6 (((31 : Int64) * x1) + r5.toInt64) (x3 + 1))))
def wl_X7_digest_6 (rows_ns : Nat) (rows_nc : Nat) (rows_width : Int32) (rows_sizes : Nat → Int32) (rows_cells : Nat → Int32) (texts_ns : Nat) (texts_nc : Nat) (texts_width : Int32) (texts_sizes : Nat → Int32) (texts_cells : Nat → Int32) (heap_kinds : Nat → Int32) (heap_whos : Nat → Int32) (heap_toWhoms : Nat → Int32) (heap_topics : Nat → Int32) (heap_weights : Nat → Int32) (heap_answered : Nat → Int32) (heap_size : Int32) (heap_saidBits : Int32) (heap_deedCount : Int32) (kept : Nat → Option Nat) (kd : Nat → Int32) (post : Int64 → Prop) : Nat → (Int64) → (Int32) → Prop
  | 0 => fun _ _ => False
  | zn + 1 => wb_X7_digest_6 rows_ns rows_nc rows_width rows_sizes rows_cells texts_ns texts_nc texts_width texts_sizes texts_cells heap_kinds heap_whos heap_toWhoms heap_topics heap_weights heap_answered heap_size heap_saidBits heap_deedCount kept kd post (wl_X7_digest_6 rows_ns rows_nc rows_width rows_sizes rows_cells texts_ns texts_nc texts_width texts_sizes texts_cells heap_kinds heap_whos heap_toWhoms heap_topics heap_weights heap_answered heap_size heap_saidBits heap_deedCount kept kd post zn)
def wp_X7_digest (rows_ns : Nat) (rows_nc : Nat) (rows_width : Int32) (rows_sizes : Nat → Int32) (rows_cells : Nat → Int32) (texts_ns : Nat) (texts_nc : Nat) (texts_width : Int32) (texts_sizes : Nat → Int32) (texts_cells : Nat → Int32) (heap_kinds : Nat → Int32) (heap_whos : Nat → Int32) (heap_toWhoms : Nat → Int32) (heap_topics : Nat → Int32) (heap_weights : Nat → Int32) (heap_answered : Nat → Int32) (heap_size : Int32) (heap_saidBits : Int32) (heap_deedCount : Int32) (kept : Nat → Option Nat) (kd : Nat → Int32) (post : Int64 → Prop) : Prop :=
  ∃ zn, wl_X7_digest_6 rows_ns rows_nc rows_width rows_sizes rows_cells texts_ns texts_nc texts_width texts_sizes texts_cells heap_kinds heap_whos heap_toWhoms heap_topics heap_weights heap_answered heap_size heap_saidBits heap_deedCount kept kd post zn (17 : Int64) (0 : Int32)
def rm_X7_digest : Room := { frames := 6, cells := 0, slots := 0, locals := 131 }
theorem k_X7_digest_1 : Cond.constantLong RX7 308 (17) ∈ wsX7_digest := List.mem_of_getElem? (i := 1) (by decide +kernel)
theorem k_X7_digest_2 : Cond.constantLong RX7 310 (31) ∈ wsX7_digest := List.mem_of_getElem? (i := 2) (by decide +kernel)
theorem k_X7_digest_3 : Cond.fieldLink RX7 24 "IronedQuarrels" "heap" "LIronedQuarrels$Heap;" ∈ wsX7_digest := List.mem_of_getElem? (i := 3) (by decide +kernel)
theorem k_X7_digest_4 : Cond.fieldLink RX7 31 "IronedQuarrels" "kept" "[LIronedQuarrels$Heap;" ∈ wsX7_digest := List.mem_of_getElem? (i := 4) (by decide +kernel)
theorem k_X7_digest_5 : Cond.fieldLink RX7 18 "IronedQuarrels" "texts" "LIronedQuarrels$Shelf;" ∈ wsX7_digest := List.mem_of_getElem? (i := 5) (by decide +kernel)
theorem k_X7_digest_6 : Cond.fieldLink RX7 14 "IronedQuarrels" "rows" "LIronedQuarrels$Shelf;" ∈ wsX7_digest := List.mem_of_getElem? (i := 6) (by decide +kernel)
theorem hi_X7_digest_X1 : ∀ w ∈ wsX10, w ∈ wsX7_digest := fun w h => List.mem_cons_of_mem _ (List.mem_append_left _ (List.mem_append_right _ h))
theorem hi_X7_digest_X5 : ∀ w ∈ wsX50, w ∈ wsX7_digest := fun w h => List.mem_cons_of_mem _ (List.mem_append_right _ h)
theorem hi_X7_digest_X7 : ∀ w ∈ wsX70, w ∈ wsX7_digest := fun w h => List.mem_cons_of_mem _ (List.mem_append_left _ (List.mem_append_left _ (List.mem_append_right _ h)))
set_option maxHeartbeats 4000000 in
set_option maxRecDepth 100000 in
theorem c_X7_digest (l : Launch) (D : va_G) (ca : Nat → ClassId) (a : Nat → Nat) (aR : Nat → Nat) (aT : Nat → Nat) (aH : Nat → Nat) (aD : Nat → Nat) (aK : Nat) (aI : Nat → Nat) (aC : Nat → Nat) (aS : Nat → Nat) (aY : Nat → Nat) (lastTold : Int32) (rows_ns : Nat) (rows_nc : Nat) (rows_width : Int32) (rows_sizes : Nat → Int32) (rows_cells : Nat → Int32) (texts_ns : Nat) (texts_nc : Nat) (texts_width : Int32) (texts_sizes : Nat → Int32) (texts_cells : Nat → Int32) (heap_kinds : Nat → Int32) (heap_whos : Nat → Int32) (heap_toWhoms : Nat → Int32) (heap_topics : Nat → Int32) (heap_weights : Nat → Int32) (heap_answered : Nat → Int32) (heap_deeds : Nat → Int32) (heap_size : Int32) (heap_saidBits : Int32) (heap_deedCount : Int32) (kept : Nat → Option Nat) (kd : Nat → Int32) (post : Int64 → Prop) (h : wp_X7_digest rows_ns rows_nc rows_width rows_sizes rows_cells texts_ns texts_nc texts_width texts_sizes texts_cells heap_kinds heap_whos heap_toWhoms heap_topics heap_weights heap_answered heap_size heap_saidBits heap_deedCount kept kd post) : Met l yX7_digest wsX7_digest rm_X7_digest (PcQ kept kd D ca [.ref (a 0)] ((W_X7 a aR aT aH aD aK aI aC aS aY lastTold) ++ (W_X5 ca aR rows_ns rows_nc rows_width rows_sizes rows_cells) ++ (W_X5 ca aT texts_ns texts_nc texts_width texts_sizes texts_cells) ++ (W_X1 ca aH heap_kinds heap_whos heap_toWhoms heap_topics heap_weights heap_answered heap_deeds heap_size heap_saidBits heap_deedCount) ++ (W_K ca aK kept))) (rdL post) 0 0 (fun _ => False) := by
  refine Met.ofW (cc := cX7_digest) (maxL := 5) (ret := (some .long)) (by decide) rfl ?_
  intro zp ze zs zm za zb zt zc z1 B hml hv
  obtain ⟨rfl, hP, hK, hQ⟩ := hv
  have hx := B.exec
  have hb := B.bytes
  have hr := B.returns
  have hts := atoms_spec (ws := wsX7_digest) B.pre
  have hown : zs.vm.findClass RX7 = some zm.cls := findClass_of_methodNamed B.named
  have hlocks := B.notSynchronized
  have hl := lv_entry ([.ref (a 0)]) (n := 5) (Nat.le_of_ble_eq_true rfl)
  rw [lg_entry_eq]
  generalize (lg_sl ([.ref (a 0)]) ++ List.replicate (5 - (lg_sl ([.ref (a 0)])).length) Slot.unset).toArray = ls at hl ⊢
  replace hl : lv_has ls 5 [(0, .ref (a 0))] := hl
  show W zp l ze rm_X7_digest zs zm ([.ref (a 0)] : List Value).toArray zb zt zc zs.heap [] 0 0 (MQ zb (rdL post) ([.ref (a 0)] : List Value).toArray zs 0 0 (fun _ => False)) (F0 zm 0 ls [])
  have w_86 : ∀ (zn : Nat) (x1 : Int64) (x3 : Int32), wl_X7_digest_86 rows_ns rows_nc rows_width rows_sizes rows_cells texts_ns texts_nc texts_width texts_sizes texts_cells kept kd post zn x1 x3 → ∀ ls : Array Slot, lv_has ls 5 [(0, .ref (a 0)), (1, .long x1), (3, .int x3)] → W zp l ze rm_X7_digest zs zm ([.ref (a 0)] : List Value).toArray zb zt zc zs.heap [] 0 0 (MQ zb (rdL post) ([.ref (a 0)] : List Value).toArray zs 0 0 (fun _ => False)) (F0 zm 86 ls []) := by
    intro zn
    induction zn with
    | zero => intro x1 x3 h; exact h.elim
    | succ zn ih86 =>
      intro x1 x3 h ls hl
      replace h : wb_X7_digest_86 rows_ns rows_nc rows_width rows_sizes rows_cells texts_ns texts_nc texts_width texts_sizes texts_cells kept kd post (wl_X7_digest_86 rows_ns rows_nc rows_width rows_sizes rows_cells texts_ns texts_nc texts_width texts_sizes texts_cells kept kd post zn) x1 x3 := h
      unfold wb_X7_digest_86 at h
      refine lv_iload_n hx hb dX7_digest_86 rfl (lv_at hl 2 rfl) ?_
      refine lv_iconst (v := (3)) hx hb dX7_digest_87 (by decide) ?_
      refine lv_icmp_ge (tgt := 127) hx hb dX7_digest_88 (by decide) (fun hc => ?_) (fun hc => ?_)
      · have h := h.1 hc
        refine lv_aload_n hx hb dX7_digest_127 rfl (lv_at hl 0 rfl) ?_
        refine va_get (D := D) (ci := 6) (v := .ref (aT 0)) (C := RX7) (T := TX7) (N := 10) hx hb hts hi_X7_digest_X7 hown hK.1 hP 0 rfl rfl 1 (by decide) (hts _ k_X7_digest_5) (fun _ h9 => h9) rfl dX7_digest_128 ?_
        refine lv_aload_n hx hb dX7_digest_131 rfl (lv_at hl 0 rfl) ?_
        refine va_get (D := D) (ci := 6) (v := .ref (aR 0)) (C := RX7) (T := TX7) (N := 10) hx hb hts hi_X7_digest_X7 hown hK.1 hP 0 rfl rfl 0 (by decide) (hts _ k_X7_digest_6) (fun _ h9 => h9) rfl dX7_digest_132 ?_
        refine lv_lload_n hx hb dX7_digest_135 rfl (lv_at hl 1 rfl) ?_
        refine rd_calll (va_runV (As := [.long x1]) (rest := [.ref (aT 0)]) ⟨hx, hb, hml, hown, hts⟩ (c_X5_digestFrom l D ca aR rows_ns rows_nc rows_width rows_sizes rows_cells x1 _ h) (cwV 1 hts gX7_digest_X5_digestFrom rfl rfl rfl (by decide +kernel) ⟨Nat.le_of_ble_eq_true rfl, Nat.le_of_ble_eq_true rfl⟩) (PcX.preV (q := (RX5, TX5, 3)) (ci := 4) (q0 := 1) hK hP rfl rfl (hP.subM [1, 2, 3] rfl)) rfl rfl hl.1 rfl (lv_room (Nat.le_of_ble_eq_true rfl)) dX7_digest_136 ⟨Nat.le_of_ble_eq_true rfl, Nat.le_of_ble_eq_true rfl⟩) (fun r2 h => ?_)
        try dsimp only at h
        refine rd_calll (va_runV (As := [.long r2]) (rest := []) ⟨hx, hb, hml, hown, hts⟩ (c_X5_digestFrom l D ca aT texts_ns texts_nc texts_width texts_sizes texts_cells r2 _ h) (cwV 1 hts gX7_digest_X5_digestFrom rfl rfl rfl (by decide +kernel) ⟨Nat.le_of_ble_eq_true rfl, Nat.le_of_ble_eq_true rfl⟩) (PcX.preV (q := (RX5, TX5, 3)) (ci := 4) (q0 := 4) hK hP rfl rfl (hP.subM [4, 5, 6] rfl)) rfl rfl hl.1 rfl (lv_room (Nat.le_of_ble_eq_true rfl)) dX7_digest_139 ⟨Nat.le_of_ble_eq_true rfl, Nat.le_of_ble_eq_true rfl⟩) (fun r3 h => ?_)
        try dsimp only at h
        exact W.lret (v := r3) hx hb hr (fun zt ht hW => ⟨r3, rfl, h, ht⟩) (fun zq hq => absurd hq List.not_mem_nil) dX7_digest_142
      · have h := h.2 hc
        refine lv_aload_n hx hb dX7_digest_91 rfl (lv_at hl 0 rfl) ?_
        refine va_get (D := D) (ci := 6) (v := .ref aK) (C := RX7) (T := TX7) (N := 10) hx hb hts hi_X7_digest_X7 hown hK.1 hP 0 rfl rfl 4 (by decide) (hts _ k_X7_digest_4) (fun _ h9 => h9) rfl dX7_digest_92 ?_
        refine lv_iload_n hx hb dX7_digest_95 rfl (lv_at hl 2 rfl) ?_
        obtain ⟨hi, h⟩ := h
        refine x_aldq hx hb hK hP 15 rfl hi dX7_digest_96 ?_
        refine x_astoreq (lv' := [(4, va_rf (kept x3.toNatClampNeg)), (0, .ref (a 0)), (1, .long x1), (3, .int x3)]) hx hb dX7_digest_97 hl (by decide) rfl (fun ls hl => ?_)
        refine lv_ldc2 (v := (31)) hx hb hown (hts _ k_X7_digest_2) dX7_digest_99 ?_
        refine lv_lload_n hx hb dX7_digest_102 rfl (lv_at hl 2 rfl) ?_
        refine lv_lmul hx hb dX7_digest_103 ?_
        refine x_aloadq hx hb dX7_digest_104 (lv_at hl 0 rfl) ?_
        refine x_nnul (tgt := 113) hx hb dX7_digest_106 (by decide) (fun hc => ?_) (fun hc => ?_)
        · have h := h.1 hc
          refine x_aloadq hx hb dX7_digest_113 (lv_at hl 0 rfl) ?_
          obtain ⟨zy, hzy⟩ := Option.ne_none_iff_exists'.mp hc
          obtain ⟨ap, pk, pw, pt, po, pg, pr, pd, pn, ps, rfl, hPq⟩ := hQ (x3.toNatClampNeg) (Nat.not_le.mp (fun zq => hi (Or.inr zq))) zy hzy
          rw [hzy]
          refine rd_calli (va_runV (As := []) (rest := [.long ((31 : Int64) * x1)]) ⟨hx, hb, hml, hown, hts⟩ (c_X1_howManyDeeds l D ca ap pk pw pt po pg pr pd pn ps (kd (x3.toNatClampNeg)) (fun zr => zr = kd (x3.toNatClampNeg)) rfl) (cwV 0 hts gX7_digest_X1_howManyDeeds rfl rfl rfl (by decide +kernel) ⟨Nat.le_of_ble_eq_true rfl, Nat.le_of_ble_eq_true rfl⟩) (PcX.preV (q := (RX1, TX1, 10)) (ci := 1) (q0 := 0) hK hPq rfl rfl hPq) rfl rfl hl.1 rfl (lv_room (Nat.le_of_ble_eq_true rfl)) dX7_digest_115 ⟨Nat.le_of_ble_eq_true rfl, Nat.le_of_ble_eq_true rfl⟩) (fun r hr0 => ?_)
          subst hr0
          refine lv_i2l hx hb dX7_digest_118 rfl ?_
          refine lv_ladd hx hb dX7_digest_119 ?_
          refine lv_lstore_n (lv' := [(1, .long (((31 : Int64) * x1) + ((kd (x3.toNatClampNeg)).toInt64))), (4, va_rf (kept x3.toNatClampNeg)), (0, .ref (a 0)), (3, .int x3)]) hx hb dX7_digest_120 rfl hl (by decide) rfl (fun ls hl => ?_)
          refine lv_iinc (v := x3 + 1) (lv' := [(3, .int (x3 + 1)), (1, .long (((31 : Int64) * x1) + ((kd (x3.toNatClampNeg)).toInt64))), (4, va_rf (kept x3.toNatClampNeg)), (0, .ref (a 0))]) hx hb dX7_digest_121 hl (k := 3) rfl rfl (by decide) rfl (fun ls hl => ?_)
          refine lv_goto (tgt := 86) hx hb dX7_digest_124 (by decide) ?_
          exact ih86 (((31 : Int64) * x1) + ((kd (x3.toNatClampNeg)).toInt64)) (x3 + 1) h ls (lv_sub hl [3, 1, 0] rfl)
        · have h := h.2 hc
          refine lv_iconst (v := (-1)) hx hb dX7_digest_109 (by decide) ?_
          refine lv_goto (tgt := 118) hx hb dX7_digest_110 (by decide) ?_
          refine lv_i2l hx hb dX7_digest_118 rfl ?_
          refine lv_ladd hx hb dX7_digest_119 ?_
          refine lv_lstore_n (lv' := [(1, .long (((31 : Int64) * x1) + ((-1 : Int32).toInt64))), (4, va_rf (kept x3.toNatClampNeg)), (0, .ref (a 0)), (3, .int x3)]) hx hb dX7_digest_120 rfl hl (by decide) rfl (fun ls hl => ?_)
          refine lv_iinc (v := x3 + 1) (lv' := [(3, .int (x3 + 1)), (1, .long (((31 : Int64) * x1) + ((-1 : Int32).toInt64))), (4, va_rf (kept x3.toNatClampNeg)), (0, .ref (a 0))]) hx hb dX7_digest_121 hl (k := 3) rfl rfl (by decide) rfl (fun ls hl => ?_)
          refine lv_goto (tgt := 86) hx hb dX7_digest_124 (by decide) ?_
          exact ih86 (((31 : Int64) * x1) + ((-1 : Int32).toInt64)) (x3 + 1) h ls (lv_sub hl [3, 1, 0] rfl)
  have w_47 : ∀ (K33 : (Int64) → (Int32) → Prop) (ih33 : ∀ (x1 : Int64) (x3 : Int32), K33 x1 x3 → ∀ ls : Array Slot, lv_has ls 5 [(0, .ref (a 0)), (1, .long x1), (3, .int x3)] → W zp l ze rm_X7_digest zs zm ([.ref (a 0)] : List Value).toArray zb zt zc zs.heap [] 0 0 (MQ zb (rdL post) ([.ref (a 0)] : List Value).toArray zs 0 0 (fun _ => False)) (F0 zm 33 ls [])) (zn : Nat) (x1 : Int64) (x3 : Int32) (x4 : Int32), wl_X7_digest_47 heap_kinds heap_whos heap_toWhoms heap_topics heap_weights heap_answered heap_size heap_saidBits K33 zn x1 x3 x4 → ∀ ls : Array Slot, lv_has ls 5 [(0, .ref (a 0)), (1, .long x1), (3, .int x3), (4, .int x4)] → W zp l ze rm_X7_digest zs zm ([.ref (a 0)] : List Value).toArray zb zt zc zs.heap [] 0 0 (MQ zb (rdL post) ([.ref (a 0)] : List Value).toArray zs 0 0 (fun _ => False)) (F0 zm 47 ls []) := by
    intro K33 ih33 zn
    induction zn with
    | zero => intro x1 x3 x4 h; exact h.elim
    | succ zn ih47 =>
      intro x1 x3 x4 h ls hl
      replace h : wb_X7_digest_47 heap_kinds heap_whos heap_toWhoms heap_topics heap_weights heap_answered heap_size heap_saidBits K33 (wl_X7_digest_47 heap_kinds heap_whos heap_toWhoms heap_topics heap_weights heap_answered heap_size heap_saidBits K33 zn) x1 x3 x4 := h
      unfold wb_X7_digest_47 at h
      refine lv_iload hx hb dX7_digest_47 (lv_at hl 3 rfl) ?_
      refine lv_bipush (v := (8)) hx hb dX7_digest_49 (by decide) ?_
      refine lv_icmp_ge (tgt := 78) hx hb dX7_digest_51 (by decide) (fun hc => ?_) (fun hc => ?_)
      · have h := h.1 hc
        refine lv_iinc (v := x3 + 1) (lv' := [(3, .int (x3 + 1)), (0, .ref (a 0)), (1, .long x1), (4, .int x4)]) hx hb dX7_digest_78 hl (k := 2) rfl rfl (by decide) rfl (fun ls hl => ?_)
        refine lv_goto (tgt := 33) hx hb dX7_digest_81 (by decide) ?_
        exact ih33 x1 (x3 + 1) h ls (lv_sub hl [1, 2, 0] rfl)
      · have h := h.2 hc
        refine lv_ldc2 (v := (31)) hx hb hown (hts _ k_X7_digest_2) dX7_digest_54 ?_
        refine lv_lload_n hx hb dX7_digest_57 rfl (lv_at hl 1 rfl) ?_
        refine lv_lmul hx hb dX7_digest_58 ?_
        refine lv_aload_n hx hb dX7_digest_59 rfl (lv_at hl 0 rfl) ?_
        refine va_get (D := D) (ci := 6) (v := .ref (aH 0)) (C := RX7) (T := TX7) (N := 10) hx hb hts hi_X7_digest_X7 hown hK.1 hP 0 rfl rfl 2 (by decide) (hts _ k_X7_digest_3) (fun _ h9 => h9) rfl dX7_digest_60 ?_
        refine lv_iload_n hx hb dX7_digest_63 rfl (lv_at hl 2 rfl) ?_
        refine lv_iload hx hb dX7_digest_64 (lv_at hl 3 rfl) ?_
        refine rd_calli (va_runV (As := [.int x3, .int x4]) (rest := [.long ((31 : Int64) * x1)]) ⟨hx, hb, hml, hown, hts⟩ (c_X1_fact l D ca aH heap_kinds heap_whos heap_toWhoms heap_topics heap_weights heap_answered heap_deeds heap_size heap_saidBits heap_deedCount x3 x4 _ h) (cwV 2 hts gX7_digest_X1_fact rfl rfl rfl (by decide +kernel) ⟨Nat.le_of_ble_eq_true rfl, Nat.le_of_ble_eq_true rfl⟩) (PcX.preV (q := (RX1, TX1, 10)) (ci := 1) (q0 := 7) hK hP rfl rfl (hP.subM [7, 8, 9, 10, 11, 12, 13, 14] rfl)) rfl rfl hl.1 rfl (lv_room (Nat.le_of_ble_eq_true rfl)) dX7_digest_66 ⟨Nat.le_of_ble_eq_true rfl, Nat.le_of_ble_eq_true rfl⟩) (fun r4 h => ?_)
        try dsimp only at h
        refine lv_i2l hx hb dX7_digest_69 rfl ?_
        refine lv_ladd hx hb dX7_digest_70 ?_
        refine lv_lstore_n (lv' := [(1, .long (((31 : Int64) * x1) + r4.toInt64)), (0, .ref (a 0)), (3, .int x3), (4, .int x4)]) hx hb dX7_digest_71 rfl hl (by decide) rfl (fun ls hl => ?_)
        refine lv_iinc (v := x4 + 1) (lv' := [(4, .int (x4 + 1)), (1, .long (((31 : Int64) * x1) + r4.toInt64)), (0, .ref (a 0)), (3, .int x3)]) hx hb dX7_digest_72 hl (k := 3) rfl rfl (by decide) rfl (fun ls hl => ?_)
        refine lv_goto (tgt := 47) hx hb dX7_digest_75 (by decide) ?_
        exact ih47 (((31 : Int64) * x1) + r4.toInt64) x3 (x4 + 1) h ls (lv_sub hl [2, 1, 3, 0] rfl)
  have w_33 : ∀ (zn : Nat) (x1 : Int64) (x3 : Int32), wl_X7_digest_33 rows_ns rows_nc rows_width rows_sizes rows_cells texts_ns texts_nc texts_width texts_sizes texts_cells heap_kinds heap_whos heap_toWhoms heap_topics heap_weights heap_answered heap_size heap_saidBits kept kd post zn x1 x3 → ∀ ls : Array Slot, lv_has ls 5 [(0, .ref (a 0)), (1, .long x1), (3, .int x3)] → W zp l ze rm_X7_digest zs zm ([.ref (a 0)] : List Value).toArray zb zt zc zs.heap [] 0 0 (MQ zb (rdL post) ([.ref (a 0)] : List Value).toArray zs 0 0 (fun _ => False)) (F0 zm 33 ls []) := by
    intro zn
    induction zn with
    | zero => intro x1 x3 h; exact h.elim
    | succ zn ih33 =>
      intro x1 x3 h ls hl
      replace h : wb_X7_digest_33 rows_ns rows_nc rows_width rows_sizes rows_cells texts_ns texts_nc texts_width texts_sizes texts_cells heap_kinds heap_whos heap_toWhoms heap_topics heap_weights heap_answered heap_size heap_saidBits kept kd post (wl_X7_digest_33 rows_ns rows_nc rows_width rows_sizes rows_cells texts_ns texts_nc texts_width texts_sizes texts_cells heap_kinds heap_whos heap_toWhoms heap_topics heap_weights heap_answered heap_size heap_saidBits kept kd post zn) x1 x3 := h
      unfold wb_X7_digest_33 at h
      refine lv_iload_n hx hb dX7_digest_33 rfl (lv_at hl 2 rfl) ?_
      refine lv_aload_n hx hb dX7_digest_34 rfl (lv_at hl 0 rfl) ?_
      refine va_get (D := D) (ci := 6) (v := .ref (aH 0)) (C := RX7) (T := TX7) (N := 10) hx hb hts hi_X7_digest_X7 hown hK.1 hP 0 rfl rfl 2 (by decide) (hts _ k_X7_digest_3) (fun _ h9 => h9) rfl dX7_digest_35 ?_
      refine rd_calli (va_runV (As := []) (rest := [.int x3]) ⟨hx, hb, hml, hown, hts⟩ (c_X1_howMany l D ca aH heap_kinds heap_whos heap_toWhoms heap_topics heap_weights heap_answered heap_deeds heap_size heap_saidBits heap_deedCount  _ h) (cwV 0 hts gX7_digest_X1_howMany rfl rfl rfl (by decide +kernel) ⟨Nat.le_of_ble_eq_true rfl, Nat.le_of_ble_eq_true rfl⟩) (PcX.preV (q := (RX1, TX1, 10)) (ci := 1) (q0 := 7) hK hP rfl rfl (hP.subM [7, 8, 9, 10, 11, 12, 13, 14] rfl)) rfl rfl hl.1 rfl (lv_room (Nat.le_of_ble_eq_true rfl)) dX7_digest_38 ⟨Nat.le_of_ble_eq_true rfl, Nat.le_of_ble_eq_true rfl⟩) (fun r1 h => ?_)
      try dsimp only at h
      refine lv_icmp_ge (tgt := 84) hx hb dX7_digest_41 (by decide) (fun hc => ?_) (fun hc => ?_)
      · have h := h.1 hc
        refine lv_iconst (v := (0)) hx hb dX7_digest_84 (by decide) ?_
        refine lv_istore_n (lv' := [(3, .int (0 : Int32)), (0, .ref (a 0)), (1, .long x1)]) hx hb dX7_digest_85 rfl hl (by decide) rfl (fun ls hl => ?_)
        obtain ⟨zn, h⟩ := h
        exact w_86  zn x1 (0 : Int32) h ls (lv_sub hl [1, 2, 0] rfl)
      · have h := h.2 hc
        refine lv_iconst (v := (0)) hx hb dX7_digest_44 (by decide) ?_
        refine lv_istore (lv' := [(4, .int (0 : Int32)), (0, .ref (a 0)), (1, .long x1), (3, .int x3)]) hx hb dX7_digest_45 hl (by decide) rfl (fun ls hl => ?_)
        obtain ⟨zn, h⟩ := h
        exact w_47 _ ih33 zn x1 x3 (0 : Int32) h ls (lv_sub hl [1, 2, 3, 0] rfl)
  have w_6 : ∀ (zn : Nat) (x1 : Int64) (x3 : Int32), wl_X7_digest_6 rows_ns rows_nc rows_width rows_sizes rows_cells texts_ns texts_nc texts_width texts_sizes texts_cells heap_kinds heap_whos heap_toWhoms heap_topics heap_weights heap_answered heap_size heap_saidBits heap_deedCount kept kd post zn x1 x3 → ∀ ls : Array Slot, lv_has ls 5 [(0, .ref (a 0)), (1, .long x1), (3, .int x3)] → W zp l ze rm_X7_digest zs zm ([.ref (a 0)] : List Value).toArray zb zt zc zs.heap [] 0 0 (MQ zb (rdL post) ([.ref (a 0)] : List Value).toArray zs 0 0 (fun _ => False)) (F0 zm 6 ls []) := by
    intro zn
    induction zn with
    | zero => intro x1 x3 h; exact h.elim
    | succ zn ih6 =>
      intro x1 x3 h ls hl
      replace h : wb_X7_digest_6 rows_ns rows_nc rows_width rows_sizes rows_cells texts_ns texts_nc texts_width texts_sizes texts_cells heap_kinds heap_whos heap_toWhoms heap_topics heap_weights heap_answered heap_size heap_saidBits heap_deedCount kept kd post (wl_X7_digest_6 rows_ns rows_nc rows_width rows_sizes rows_cells texts_ns texts_nc texts_width texts_sizes texts_cells heap_kinds heap_whos heap_toWhoms heap_topics heap_weights heap_answered heap_size heap_saidBits heap_deedCount kept kd post zn) x1 x3 := h
      unfold wb_X7_digest_6 at h
      refine lv_iload_n hx hb dX7_digest_6 rfl (lv_at hl 2 rfl) ?_
      refine lv_bipush (v := (9)) hx hb dX7_digest_7 (by decide) ?_
      refine lv_icmp_ge (tgt := 31) hx hb dX7_digest_9 (by decide) (fun hc => ?_) (fun hc => ?_)
      · have h := h.1 hc
        refine lv_iconst (v := (0)) hx hb dX7_digest_31 (by decide) ?_
        refine lv_istore_n (lv' := [(3, .int (0 : Int32)), (0, .ref (a 0)), (1, .long x1)]) hx hb dX7_digest_32 rfl hl (by decide) rfl (fun ls hl => ?_)
        obtain ⟨zn, h⟩ := h
        exact w_33  zn x1 (0 : Int32) h ls (lv_sub hl [1, 2, 0] rfl)
      · have h := h.2 hc
        refine lv_ldc2 (v := (31)) hx hb hown (hts _ k_X7_digest_2) dX7_digest_12 ?_
        refine lv_lload_n hx hb dX7_digest_15 rfl (lv_at hl 1 rfl) ?_
        refine lv_lmul hx hb dX7_digest_16 ?_
        refine lv_aload_n hx hb dX7_digest_17 rfl (lv_at hl 0 rfl) ?_
        refine lv_iload_n hx hb dX7_digest_18 rfl (lv_at hl 2 rfl) ?_
        refine rd_calli (va_runV (As := [.int x3]) (rest := [.long ((31 : Int64) * x1)]) ⟨hx, hb, hml, hown, hts⟩ (c_X7_count l D ca a aR aT aH aD aK aI aC aS aY  lastTold rows_ns rows_nc rows_width rows_sizes rows_cells texts_ns texts_nc texts_width texts_sizes texts_cells heap_kinds heap_whos heap_toWhoms heap_topics heap_weights heap_answered heap_deeds heap_size heap_saidBits heap_deedCount kept x3 _ h) (cwV 1 hts gX7_digest_X7_count rfl rfl rfl (by decide +kernel) ⟨Nat.le_of_ble_eq_true rfl, Nat.le_of_ble_eq_true rfl⟩) (PcX.preV (q := (RX7, TX7, 10)) (ci := 6) (q0 := 0) hK hP rfl rfl hP) rfl rfl hl.1 rfl (lv_room (Nat.le_of_ble_eq_true rfl)) dX7_digest_19 ⟨Nat.le_of_ble_eq_true rfl, Nat.le_of_ble_eq_true rfl⟩) (fun r5 h => ?_)
        try dsimp only at h
        refine lv_i2l hx hb dX7_digest_22 rfl ?_
        refine lv_ladd hx hb dX7_digest_23 ?_
        refine lv_lstore_n (lv' := [(1, .long (((31 : Int64) * x1) + r5.toInt64)), (0, .ref (a 0)), (3, .int x3)]) hx hb dX7_digest_24 rfl hl (by decide) rfl (fun ls hl => ?_)
        refine lv_iinc (v := x3 + 1) (lv' := [(3, .int (x3 + 1)), (1, .long (((31 : Int64) * x1) + r5.toInt64)), (0, .ref (a 0))]) hx hb dX7_digest_25 hl (k := 2) rfl rfl (by decide) rfl (fun ls hl => ?_)
        refine lv_goto (tgt := 6) hx hb dX7_digest_28 (by decide) ?_
        exact ih6 (((31 : Int64) * x1) + r5.toInt64) (x3 + 1) h ls (lv_sub hl [2, 1, 0] rfl)
  unfold wp_X7_digest at h
  refine lv_ldc2 (v := (17)) hx hb hown (hts _ k_X7_digest_1) dX7_digest_0 ?_
  refine lv_lstore_n (lv' := [(1, .long (17 : Int64)), (0, .ref (a 0))]) hx hb dX7_digest_3 rfl hl (by decide) rfl (fun ls hl => ?_)
  refine lv_iconst (v := (0)) hx hb dX7_digest_4 (by decide) ?_
  refine lv_istore_n (lv' := [(3, .int (0 : Int32)), (1, .long (17 : Int64)), (0, .ref (a 0))]) hx hb dX7_digest_5 rfl hl (by decide) rfl (fun ls hl => ?_)
  obtain ⟨zn, h⟩ := h
  exact w_6  zn (17 : Int64) (0 : Int32) h ls (lv_sub hl [2, 1, 0] rfl)

-- IronedQuarrels.keep(I)I
def wp_X7_keepA (heap_size : Int32) (k : Int32) (post : Int32 → Prop) : Prop :=
  (k < 0 → (post (-1 : Int32))) ∧ (¬ k < 0 → ((k < (3 : Int32) → (wp_X1_howMany heap_size (fun r1 => (¬ r1 = 0 → False) ∧ (r1 = 0 → (post (-4 : Int32)))))) ∧ (¬ k < (3 : Int32) → (post (-1 : Int32)))))
def rm_X7_keepA : Room := { frames := 1, cells := 0, slots := 0, locals := 20 }
theorem k_X7_keepA_1 : Cond.fieldLink RX7 24 "IronedQuarrels" "heap" "LIronedQuarrels$Heap;" ∈ wsX7_keep := List.mem_of_getElem? (i := 1) (by decide +kernel)
theorem k_X7_keepA_2 : Cond.fieldLink RX7 31 "IronedQuarrels" "kept" "[LIronedQuarrels$Heap;" ∈ wsX7_keep := List.mem_of_getElem? (i := 2) (by decide +kernel)
theorem hi_X7_keepA_X1 : ∀ w ∈ wsX10, w ∈ wsX7_keep := fun w h => List.mem_cons_of_mem _ (List.mem_append_right _ h)
theorem hi_X7_keepA_X7 : ∀ w ∈ wsX70, w ∈ wsX7_keep := fun w h => List.mem_cons_of_mem _ (List.mem_append_left _ (List.mem_append_right _ h))
set_option maxHeartbeats 4000000 in
set_option maxRecDepth 100000 in
theorem c_X7_keepA (l : Launch) (D : va_G) (ca : Nat → ClassId) (a : Nat → Nat) (aR : Nat → Nat) (aT : Nat → Nat) (aH : Nat → Nat) (aD : Nat → Nat) (aK : Nat) (aI : Nat → Nat) (aC : Nat → Nat) (aS : Nat → Nat) (aY : Nat → Nat) (lastTold : Int32) (heap_kinds : Nat → Int32) (heap_whos : Nat → Int32) (heap_toWhoms : Nat → Int32) (heap_topics : Nat → Int32) (heap_weights : Nat → Int32) (heap_answered : Nat → Int32) (heap_deeds : Nat → Int32) (heap_size : Int32) (heap_saidBits : Int32) (heap_deedCount : Int32) (kept : Nat → Option Nat) (k : Int32) (post : Int32 → Prop) (h : wp_X7_keepA heap_size k post) : Met l yX7_keep wsX7_keep rm_X7_keepA (PcX D ca [.ref (a 0), .int k] ((W_X7 a aR aT aH aD aK aI aC aS aY lastTold) ++ (W_X1 ca aH heap_kinds heap_whos heap_toWhoms heap_topics heap_weights heap_answered heap_deeds heap_size heap_saidBits heap_deedCount) ++ (W_K ca aK kept))) (rdI post) 0 0 (fun _ => False) := by
  refine Met.ofW (cc := cX7_keep) (maxL := 3) (ret := (some .int)) (by decide) rfl ?_
  intro zp ze zs zm za zb zt zc z1 B hml hv
  obtain ⟨rfl, hP, hK⟩ := hv
  have hx := B.exec
  have hb := B.bytes
  have hr := B.returns
  have hts := atoms_spec (ws := wsX7_keep) B.pre
  have hown : zs.vm.findClass RX7 = some zm.cls := findClass_of_methodNamed B.named
  have hlocks := B.notSynchronized
  have hl := lv_entry ([.ref (a 0), .int k]) (n := 3) (Nat.le_of_ble_eq_true rfl)
  rw [lg_entry_eq]
  generalize (lg_sl ([.ref (a 0), .int k]) ++ List.replicate (3 - (lg_sl ([.ref (a 0), .int k])).length) Slot.unset).toArray = ls at hl ⊢
  replace hl : lv_has ls 3 [(0, .ref (a 0)), (1, .int k)] := hl
  show W zp l ze rm_X7_keepA zs zm ([.ref (a 0), .int k] : List Value).toArray zb zt zc zs.heap [] 0 0 (MQ zb (rdI post) ([.ref (a 0), .int k] : List Value).toArray zs 0 0 (fun _ => False)) (F0 zm 0 ls [])
  unfold wp_X7_keepA at h
  refine lv_iload_n hx hb dX7_keep_0 rfl (lv_at hl 1 rfl) ?_
  refine lv_if_lt (tgt := 9) hx hb dX7_keep_1 (by decide) (fun hc => ?_) (fun hc => ?_)
  · have h := h.1 hc
    refine lv_iconst (v := (-1)) hx hb dX7_keep_9 (by decide) ?_
    exact W.iret (v := (-1 : Int32)) hx hb hr (fun zt ht hW => ⟨(-1 : Int32), rfl, h, ht⟩) (fun zq hq => absurd hq List.not_mem_nil) dX7_keep_10
  · have h := h.2 hc
    refine lv_iload_n hx hb dX7_keep_4 rfl (lv_at hl 1 rfl) ?_
    refine lv_iconst (v := (3)) hx hb dX7_keep_5 (by decide) ?_
    refine lv_icmp_lt (tgt := 11) hx hb dX7_keep_6 (by decide) (fun hc => ?_) (fun hc => ?_)
    · have h := h.1 hc
      refine lv_aload_n hx hb dX7_keep_11 rfl (lv_at hl 0 rfl) ?_
      refine va_get (D := D) (ci := 6) (v := .ref (aH 0)) (C := RX7) (T := TX7) (N := 10) hx hb hts hi_X7_keepA_X7 hown hK.1 hP 0 rfl rfl 2 (by decide) (hts _ k_X7_keepA_1) (fun _ h9 => h9) rfl dX7_keep_12 ?_
      refine rd_calli (va_runV (As := []) (rest := []) ⟨hx, hb, hml, hown, hts⟩ (c_X1_howMany l D ca aH heap_kinds heap_whos heap_toWhoms heap_topics heap_weights heap_answered heap_deeds heap_size heap_saidBits heap_deedCount  _ h) (cwV 0 hts gX7_keep_X1_howMany rfl rfl rfl (by decide +kernel) ⟨Nat.le_of_ble_eq_true rfl, Nat.le_of_ble_eq_true rfl⟩) (PcX.preV (q := (RX1, TX1, 10)) (ci := 1) (q0 := 1) hK hP rfl rfl (hP.subM [1, 2, 3, 4, 5, 6, 7, 8] rfl)) rfl rfl hl.1 rfl (lv_room (Nat.le_of_ble_eq_true rfl)) dX7_keep_15 ⟨Nat.le_of_ble_eq_true rfl, Nat.le_of_ble_eq_true rfl⟩) (fun r1 h => ?_)
      try dsimp only at h
      refine lv_if_ne (tgt := 24) hx hb dX7_keep_18 (by decide) (fun hc => ?_) (fun hc => ?_)
      · have h := h.1 hc
        refine lv_aload_n hx hb dX7_keep_24 rfl (lv_at hl 0 rfl) ?_
        refine va_get (D := D) (ci := 6) (v := .ref aK) (C := RX7) (T := TX7) (N := 10) hx hb hts hi_X7_keepA_X7 hown hK.1 hP 0 rfl rfl 4 (by decide) (hts _ k_X7_keepA_2) (fun _ h9 => h9) rfl dX7_keep_25 ?_
        refine lv_iload_n hx hb dX7_keep_28 rfl (lv_at hl 1 rfl) ?_
        exact h.elim
      · have h := h.2 hc
        refine lv_bipush (v := (-4)) hx hb dX7_keep_21 (by decide) ?_
        exact W.iret (v := (-4 : Int32)) hx hb hr (fun zt ht hW => ⟨(-4 : Int32), rfl, h, ht⟩) (fun zq hq => absurd hq List.not_mem_nil) dX7_keep_23
    · have h := h.2 hc
      refine lv_iconst (v := (-1)) hx hb dX7_keep_9 (by decide) ?_
      exact W.iret (v := (-1 : Int32)) hx hb hr (fun zt ht hW => ⟨(-1 : Int32), rfl, h, ht⟩) (fun zq hq => absurd hq List.not_mem_nil) dX7_keep_10

-- IronedQuarrels.keep(I)I
def wb_X7_keepB_50 (heap_kinds : Nat → Int32) (heap_whos : Nat → Int32) (heap_toWhoms : Nat → Int32) (heap_topics : Nat → Int32) (heap_weights : Nat → Int32) (heap_answered : Nat → Int32) (heap_deeds : Nat → Int32) (heap_size : Int32) (heap_saidBits : Int32) (heap_deedCount : Int32) (post : Int32 → (Nat → Int32) → (Nat → Int32) → (Nat → Int32) → (Nat → Int32) → (Nat → Int32) → (Nat → Int32) → (Nat → Int32) → (Int32) → (Int32) → (Int32) → Prop) (place_kinds : Nat → Int32) (place_whos : Nat → Int32) (place_toWhoms : Nat → Int32) (place_topics : Nat → Int32) (place_weights : Nat → Int32) (place_answered : Nat → Int32) (place_deeds : Nat → Int32) (place_size : Int32) (place_saidBits : Int32) (place_deedCount : Int32) : Prop :=
  wp_X1_becomeLike place_kinds place_whos place_toWhoms place_topics place_weights place_answered place_deeds heap_kinds heap_whos heap_toWhoms heap_topics heap_weights heap_answered heap_deeds heap_size heap_saidBits heap_deedCount (fun place_kinds_2 place_whos_3 place_toWhoms_4 place_topics_5 place_weights_6 place_answered_7 place_deeds_8 place_size_9 place_saidBits_10 place_deedCount_11 => wp_X1_howManyDeeds heap_deedCount (fun r12 => post r12 place_kinds_2 place_whos_3 place_toWhoms_4 place_topics_5 place_weights_6 place_answered_7 place_deeds_8 place_size_9 place_saidBits_10 place_deedCount_11))
def wp_X7_keepB (heap_kinds : Nat → Int32) (heap_whos : Nat → Int32) (heap_toWhoms : Nat → Int32) (heap_topics : Nat → Int32) (heap_weights : Nat → Int32) (heap_answered : Nat → Int32) (heap_deeds : Nat → Int32) (heap_size : Int32) (heap_saidBits : Int32) (heap_deedCount : Int32) (kept : Nat → Option Nat) (place_kinds : Nat → Int32) (place_whos : Nat → Int32) (place_toWhoms : Nat → Int32) (place_topics : Nat → Int32) (place_weights : Nat → Int32) (place_answered : Nat → Int32) (place_deeds : Nat → Int32) (place_size : Int32) (place_saidBits : Int32) (place_deedCount : Int32) (k : Int32) (zq : Nat) (post : Int32 → (Nat → Int32) → (Nat → Int32) → (Nat → Int32) → (Nat → Int32) → (Nat → Int32) → (Nat → Int32) → (Nat → Int32) → (Int32) → (Int32) → (Int32) → Prop) : Prop :=
  (k < 0 → (post (-1 : Int32) place_kinds place_whos place_toWhoms place_topics place_weights place_answered place_deeds place_size place_saidBits place_deedCount)) ∧ (¬ k < 0 → ((k < (3 : Int32) → (wp_X1_howMany heap_size (fun r1 => (¬ r1 = 0 → (vp_in k 3 ∧ kept k.toNatClampNeg = some zq ∧ wb_X7_keepB_50 heap_kinds heap_whos heap_toWhoms heap_topics heap_weights heap_answered heap_deeds heap_size heap_saidBits heap_deedCount post place_kinds place_whos place_toWhoms place_topics place_weights place_answered place_deeds place_size place_saidBits place_deedCount)) ∧ (r1 = 0 → (post (-4 : Int32) place_kinds place_whos place_toWhoms place_topics place_weights place_answered place_deeds place_size place_saidBits place_deedCount))))) ∧ (¬ k < (3 : Int32) → (post (-1 : Int32) place_kinds place_whos place_toWhoms place_topics place_weights place_answered place_deeds place_size place_saidBits place_deedCount))))
def rm_X7_keepB : Room := { frames := 2, cells := 0, slots := 0, locals := 61 }
theorem k_X7_keepB_1 : Cond.fieldLink RX7 24 "IronedQuarrels" "heap" "LIronedQuarrels$Heap;" ∈ wsX7_keep := List.mem_of_getElem? (i := 1) (by decide +kernel)
theorem k_X7_keepB_2 : Cond.fieldLink RX7 31 "IronedQuarrels" "kept" "[LIronedQuarrels$Heap;" ∈ wsX7_keep := List.mem_of_getElem? (i := 2) (by decide +kernel)
theorem hi_X7_keepB_X1 : ∀ w ∈ wsX10, w ∈ wsX7_keep := fun w h => List.mem_cons_of_mem _ (List.mem_append_right _ h)
theorem hi_X7_keepB_X7 : ∀ w ∈ wsX70, w ∈ wsX7_keep := fun w h => List.mem_cons_of_mem _ (List.mem_append_left _ (List.mem_append_right _ h))
set_option maxHeartbeats 4000000 in
set_option maxRecDepth 100000 in
theorem c_X7_keepB (l : Launch) (D : va_G) (ca : Nat → ClassId) (a : Nat → Nat) (aR : Nat → Nat) (aT : Nat → Nat) (aH : Nat → Nat) (aD : Nat → Nat) (aK : Nat) (aI : Nat → Nat) (aC : Nat → Nat) (aS : Nat → Nat) (aY : Nat → Nat) (ap : Nat → Nat) (lastTold : Int32) (heap_kinds : Nat → Int32) (heap_whos : Nat → Int32) (heap_toWhoms : Nat → Int32) (heap_topics : Nat → Int32) (heap_weights : Nat → Int32) (heap_answered : Nat → Int32) (heap_deeds : Nat → Int32) (heap_size : Int32) (heap_saidBits : Int32) (heap_deedCount : Int32) (kept : Nat → Option Nat) (place_kinds : Nat → Int32) (place_whos : Nat → Int32) (place_toWhoms : Nat → Int32) (place_topics : Nat → Int32) (place_weights : Nat → Int32) (place_answered : Nat → Int32) (place_deeds : Nat → Int32) (place_size : Int32) (place_saidBits : Int32) (place_deedCount : Int32) (k : Int32) (post : Int32 → (Nat → Int32) → (Nat → Int32) → (Nat → Int32) → (Nat → Int32) → (Nat → Int32) → (Nat → Int32) → (Nat → Int32) → (Int32) → (Int32) → (Int32) → Prop) (hd : va_D (fun _ => True) ((W_X7 a aR aT aH aD aK aI aC aS aY lastTold) ++ (W_X1 ca aH heap_kinds heap_whos heap_toWhoms heap_topics heap_weights heap_answered heap_deeds heap_size heap_saidBits heap_deedCount) ++ (W_K ca aK kept) ++ (W_X1 ca ap place_kinds place_whos place_toWhoms place_topics place_weights place_answered place_deeds place_size place_saidBits place_deedCount))) (h : wp_X7_keepB heap_kinds heap_whos heap_toWhoms heap_topics heap_weights heap_answered heap_deeds heap_size heap_saidBits heap_deedCount kept place_kinds place_whos place_toWhoms place_topics place_weights place_answered place_deeds place_size place_saidBits place_deedCount k (ap 0) post) : Met l yX7_keep wsX7_keep rm_X7_keepB (PcX D ca [.ref (a 0), .int k] ((W_X7 a aR aT aH aD aK aI aC aS aY lastTold) ++ (W_X1 ca aH heap_kinds heap_whos heap_toWhoms heap_topics heap_weights heap_answered heap_deeds heap_size heap_saidBits heap_deedCount) ++ (W_K ca aK kept) ++ (W_X1 ca ap place_kinds place_whos place_toWhoms place_topics place_weights place_answered place_deeds place_size place_saidBits place_deedCount))) (wrI (S := (Nat → Int32) × (Nat → Int32) × (Nat → Int32) × (Nat → Int32) × (Nat → Int32) × (Nat → Int32) × (Nat → Int32) × (Int32) × (Int32) × (Int32)) D ((W_X7 a aR aT aH aD aK aI aC aS aY lastTold) ++ (W_X1 ca aH heap_kinds heap_whos heap_toWhoms heap_topics heap_weights heap_answered heap_deeds heap_size heap_saidBits heap_deedCount) ++ (W_K ca aK kept) ++ (W_X1 ca ap place_kinds place_whos place_toWhoms place_topics place_weights place_answered place_deeds place_size place_saidBits place_deedCount)) (fun zu => (W_X7 a aR aT aH aD aK aI aC aS aY lastTold) ++ (W_X1 ca aH heap_kinds heap_whos heap_toWhoms heap_topics heap_weights heap_answered heap_deeds heap_size heap_saidBits heap_deedCount) ++ (W_K ca aK kept) ++ (W_X1 ca ap zu.1 zu.2.1 zu.2.2.1 zu.2.2.2.1 zu.2.2.2.2.1 zu.2.2.2.2.2.1 zu.2.2.2.2.2.2.1 zu.2.2.2.2.2.2.2.1 zu.2.2.2.2.2.2.2.2.1 zu.2.2.2.2.2.2.2.2.2)) (fun zr zu => post zr zu.1 zu.2.1 zu.2.2.1 zu.2.2.2.1 zu.2.2.2.2.1 zu.2.2.2.2.2.1 zu.2.2.2.2.2.2.1 zu.2.2.2.2.2.2.2.1 zu.2.2.2.2.2.2.2.2.1 zu.2.2.2.2.2.2.2.2.2)) 0 0 (adr ((W_X7 a aR aT aH aD aK aI aC aS aY lastTold) ++ (W_X1 ca aH heap_kinds heap_whos heap_toWhoms heap_topics heap_weights heap_answered heap_deeds heap_size heap_saidBits heap_deedCount) ++ (W_K ca aK kept) ++ (W_X1 ca ap place_kinds place_whos place_toWhoms place_topics place_weights place_answered place_deeds place_size place_saidBits place_deedCount))) := by
  refine Met.ofW (cc := cX7_keep) (maxL := 3) (ret := (some .int)) (by decide) rfl ?_
  intro zp ze zs zm za zb zt zc z1 B hml hv
  obtain ⟨rfl, hP, hK⟩ := hv
  have hx := B.exec
  have hb := B.bytes
  have hr := B.returns
  have hts := atoms_spec (ws := wsX7_keep) B.pre
  have hown : zs.vm.findClass RX7 = some zm.cls := findClass_of_methodNamed B.named
  have hlocks := B.notSynchronized
  have hD : va_D (adr ((W_X7 a aR aT aH aD aK aI aC aS aY lastTold) ++ (W_X1 ca aH heap_kinds heap_whos heap_toWhoms heap_topics heap_weights heap_answered heap_deeds heap_size heap_saidBits heap_deedCount) ++ (W_K ca aK kept) ++ (W_X1 ca ap place_kinds place_whos place_toWhoms place_topics place_weights place_answered place_deeds place_size place_saidBits place_deedCount))) ((W_X7 a aR aT aH aD aK aI aC aS aY lastTold) ++ (W_X1 ca aH heap_kinds heap_whos heap_toWhoms heap_topics heap_weights heap_answered heap_deeds heap_size heap_saidBits heap_deedCount) ++ (W_K ca aK kept) ++ (W_X1 ca ap place_kinds place_whos place_toWhoms place_topics place_weights place_answered place_deeds place_size place_saidBits place_deedCount)) := hd.adr
  have hS : va_S (adr ((W_X7 a aR aT aH aD aK aI aC aS aY lastTold) ++ (W_X1 ca aH heap_kinds heap_whos heap_toWhoms heap_topics heap_weights heap_answered heap_deeds heap_size heap_saidBits heap_deedCount) ++ (W_K ca aK kept) ++ (W_X1 ca ap place_kinds place_whos place_toWhoms place_topics place_weights place_answered place_deeds place_size place_saidBits place_deedCount))) zs.heap zs.heap [] := va_S.rf
  have hl := lv_entry ([.ref (a 0), .int k]) (n := 3) (Nat.le_of_ble_eq_true rfl)
  rw [lg_entry_eq]
  generalize (lg_sl ([.ref (a 0), .int k]) ++ List.replicate (3 - (lg_sl ([.ref (a 0), .int k])).length) Slot.unset).toArray = ls at hl ⊢
  replace hl : lv_has ls 3 [(0, .ref (a 0)), (1, .int k)] := hl
  show W zp l ze rm_X7_keepB zs zm ([.ref (a 0), .int k] : List Value).toArray zb zt zc zs.heap [] 0 0 (MQ zb (wrI (S := (Nat → Int32) × (Nat → Int32) × (Nat → Int32) × (Nat → Int32) × (Nat → Int32) × (Nat → Int32) × (Nat → Int32) × (Int32) × (Int32) × (Int32)) D ((W_X7 a aR aT aH aD aK aI aC aS aY lastTold) ++ (W_X1 ca aH heap_kinds heap_whos heap_toWhoms heap_topics heap_weights heap_answered heap_deeds heap_size heap_saidBits heap_deedCount) ++ (W_K ca aK kept) ++ (W_X1 ca ap place_kinds place_whos place_toWhoms place_topics place_weights place_answered place_deeds place_size place_saidBits place_deedCount)) (fun zu => (W_X7 a aR aT aH aD aK aI aC aS aY lastTold) ++ (W_X1 ca aH heap_kinds heap_whos heap_toWhoms heap_topics heap_weights heap_answered heap_deeds heap_size heap_saidBits heap_deedCount) ++ (W_K ca aK kept) ++ (W_X1 ca ap zu.1 zu.2.1 zu.2.2.1 zu.2.2.2.1 zu.2.2.2.2.1 zu.2.2.2.2.2.1 zu.2.2.2.2.2.2.1 zu.2.2.2.2.2.2.2.1 zu.2.2.2.2.2.2.2.2.1 zu.2.2.2.2.2.2.2.2.2)) (fun zr zu => post zr zu.1 zu.2.1 zu.2.2.1 zu.2.2.2.1 zu.2.2.2.2.1 zu.2.2.2.2.2.1 zu.2.2.2.2.2.2.1 zu.2.2.2.2.2.2.2.1 zu.2.2.2.2.2.2.2.2.1 zu.2.2.2.2.2.2.2.2.2)) ([.ref (a 0), .int k] : List Value).toArray zs 0 0 (adr ((W_X7 a aR aT aH aD aK aI aC aS aY lastTold) ++ (W_X1 ca aH heap_kinds heap_whos heap_toWhoms heap_topics heap_weights heap_answered heap_deeds heap_size heap_saidBits heap_deedCount) ++ (W_K ca aK kept) ++ (W_X1 ca ap place_kinds place_whos place_toWhoms place_topics place_weights place_answered place_deeds place_size place_saidBits place_deedCount)))) (F0 zm 0 ls [])
  have w_50 : ∀ (place_kinds : Nat → Int32) (place_whos : Nat → Int32) (place_toWhoms : Nat → Int32) (place_topics : Nat → Int32) (place_weights : Nat → Int32) (place_answered : Nat → Int32) (place_deeds : Nat → Int32) (place_size : Int32) (place_saidBits : Int32) (place_deedCount : Int32), wb_X7_keepB_50 heap_kinds heap_whos heap_toWhoms heap_topics heap_weights heap_answered heap_deeds heap_size heap_saidBits heap_deedCount post place_kinds place_whos place_toWhoms place_topics place_weights place_answered place_deeds place_size place_saidBits place_deedCount → ∀ (H : Heap) (locs : List Loc), va_P D vwCl ((W_X7 a aR aT aH aD aK aI aC aS aY lastTold) ++ (W_X1 ca aH heap_kinds heap_whos heap_toWhoms heap_topics heap_weights heap_answered heap_deeds heap_size heap_saidBits heap_deedCount) ++ (W_K ca aK kept) ++ (W_X1 ca ap place_kinds place_whos place_toWhoms place_topics place_weights place_answered place_deeds place_size place_saidBits place_deedCount)) H → va_D (adr ((W_X7 a aR aT aH aD aK aI aC aS aY lastTold) ++ (W_X1 ca aH heap_kinds heap_whos heap_toWhoms heap_topics heap_weights heap_answered heap_deeds heap_size heap_saidBits heap_deedCount) ++ (W_K ca aK kept) ++ (W_X1 ca ap place_kinds place_whos place_toWhoms place_topics place_weights place_answered place_deeds place_size place_saidBits place_deedCount))) ((W_X7 a aR aT aH aD aK aI aC aS aY lastTold) ++ (W_X1 ca aH heap_kinds heap_whos heap_toWhoms heap_topics heap_weights heap_answered heap_deeds heap_size heap_saidBits heap_deedCount) ++ (W_K ca aK kept) ++ (W_X1 ca ap place_kinds place_whos place_toWhoms place_topics place_weights place_answered place_deeds place_size place_saidBits place_deedCount)) → va_S (adr ((W_X7 a aR aT aH aD aK aI aC aS aY lastTold) ++ (W_X1 ca aH heap_kinds heap_whos heap_toWhoms heap_topics heap_weights heap_answered heap_deeds heap_size heap_saidBits heap_deedCount) ++ (W_K ca aK kept) ++ (W_X1 ca ap place_kinds place_whos place_toWhoms place_topics place_weights place_answered place_deeds place_size place_saidBits place_deedCount))) zs.heap H locs → ∀ ls : Array Slot, lv_has ls 3 [(0, .ref (a 0)), (2, .ref (ap 0))] → W zp l ze rm_X7_keepB zs zm ([.ref (a 0), .int k] : List Value).toArray zb zt zc H locs 0 0 (MQ zb (wrI (S := (Nat → Int32) × (Nat → Int32) × (Nat → Int32) × (Nat → Int32) × (Nat → Int32) × (Nat → Int32) × (Nat → Int32) × (Int32) × (Int32) × (Int32)) D ((W_X7 a aR aT aH aD aK aI aC aS aY lastTold) ++ (W_X1 ca aH heap_kinds heap_whos heap_toWhoms heap_topics heap_weights heap_answered heap_deeds heap_size heap_saidBits heap_deedCount) ++ (W_K ca aK kept) ++ (W_X1 ca ap place_kinds place_whos place_toWhoms place_topics place_weights place_answered place_deeds place_size place_saidBits place_deedCount)) (fun zu => (W_X7 a aR aT aH aD aK aI aC aS aY lastTold) ++ (W_X1 ca aH heap_kinds heap_whos heap_toWhoms heap_topics heap_weights heap_answered heap_deeds heap_size heap_saidBits heap_deedCount) ++ (W_K ca aK kept) ++ (W_X1 ca ap zu.1 zu.2.1 zu.2.2.1 zu.2.2.2.1 zu.2.2.2.2.1 zu.2.2.2.2.2.1 zu.2.2.2.2.2.2.1 zu.2.2.2.2.2.2.2.1 zu.2.2.2.2.2.2.2.2.1 zu.2.2.2.2.2.2.2.2.2)) (fun zr zu => post zr zu.1 zu.2.1 zu.2.2.1 zu.2.2.2.1 zu.2.2.2.2.1 zu.2.2.2.2.2.1 zu.2.2.2.2.2.2.1 zu.2.2.2.2.2.2.2.1 zu.2.2.2.2.2.2.2.2.1 zu.2.2.2.2.2.2.2.2.2)) ([.ref (a 0), .int k] : List Value).toArray zs 0 0 (adr ((W_X7 a aR aT aH aD aK aI aC aS aY lastTold) ++ (W_X1 ca aH heap_kinds heap_whos heap_toWhoms heap_topics heap_weights heap_answered heap_deeds heap_size heap_saidBits heap_deedCount) ++ (W_K ca aK kept) ++ (W_X1 ca ap place_kinds place_whos place_toWhoms place_topics place_weights place_answered place_deeds place_size place_saidBits place_deedCount)))) (F0 zm 50 ls []) := by
    intro place_kinds place_whos place_toWhoms place_topics place_weights place_answered place_deeds place_size place_saidBits place_deedCount h H locs hP hD hS ls hl
    unfold wb_X7_keepB_50 at h
    refine lv_aload_n hx hb dX7_keep_50 rfl (lv_at hl 1 rfl) ?_
    refine lv_aload_n hx hb dX7_keep_51 rfl (lv_at hl 0 rfl) ?_
    refine va_get (D := D) (ci := 6) (v := .ref (aH 0)) (C := RX7) (T := TX7) (N := 10) hx hb hts hi_X7_keepB_X7 hown hK.1 hP 0 rfl rfl 2 (by decide) (hts _ k_X7_keepB_1) (fun _ h9 => h9) rfl dX7_keep_52 ?_
    refine wr_callv (ws1 := fun zu => (W_X7 a aR aT aH aD aK aI aC aS aY lastTold) ++ (W_X1 ca aH heap_kinds heap_whos heap_toWhoms heap_topics heap_weights heap_answered heap_deeds heap_size heap_saidBits heap_deedCount) ++ (W_K ca aK kept) ++ (W_X1 ca ap zu.1 zu.2.1 zu.2.2.1 zu.2.2.2.1 zu.2.2.2.2.1 zu.2.2.2.2.2.1 zu.2.2.2.2.2.2.1 zu.2.2.2.2.2.2.2.1 zu.2.2.2.2.2.2.2.2.1 zu.2.2.2.2.2.2.2.2.2)) (wr := ([0, 9] : List Nat).filterMap (fun zi => ((W_X7 a aR aT aH aD aK aI aC aS aY lastTold) ++ (W_X1 ca aH heap_kinds heap_whos heap_toWhoms heap_topics heap_weights heap_answered heap_deeds heap_size heap_saidBits heap_deedCount) ++ (W_K ca aK kept) ++ (W_X1 ca ap place_kinds place_whos place_toWhoms place_topics place_weights place_answered place_deeds place_size place_saidBits place_deedCount) : va_W)[zi]?)) (n := 18) (va_runV (As := [.ref (aH 0)]) (rest := []) ⟨hx, hb, hml, hown, hts⟩ (c_X1_becomeLike l D ca ap aH place_kinds place_whos place_toWhoms place_topics place_weights place_answered place_deeds place_size place_saidBits place_deedCount heap_kinds heap_whos heap_toWhoms heap_topics heap_weights heap_answered heap_deeds heap_size heap_saidBits heap_deedCount  _ (hD.subM [10, 11, 12, 13, 14, 15, 16, 17, 1, 2, 3, 4, 5, 6, 7, 8] (by decide) rfl) h) (cwV 1 hts gX7_keep_X1_becomeLike rfl rfl rfl (by decide +kernel) ⟨Nat.le_of_ble_eq_true rfl, Nat.le_of_ble_eq_true rfl⟩) (PcX.preV (q := (RX1, TX1, 10)) (ci := 1) (q0 := 10) hK hP rfl rfl (hP.subM [10, 11, 12, 13, 14, 15, 16, 17, 1, 2, 3, 4, 5, 6, 7, 8] rfl)) rfl rfl hl.1 rfl (lv_room (Nat.le_of_ble_eq_true rfl)) dX7_keep_55 ⟨Nat.le_of_ble_eq_true rfl, Nat.le_of_ble_eq_true rfl⟩) hP hD hS [10, 11, 12, 13, 14, 15, 16, 17, 1, 2, 3, 4, 5, 6, 7, 8] [0, 9] rfl (fun _ => rfl) rfl (fun _ => rfl) (fun _ => rfl) (fun _ => rfl) (by decide +kernel) (by decide +kernel) (fun zu H locs h hP hD hS => ?_)
    obtain ⟨place_kinds_2, place_whos_3, place_toWhoms_4, place_topics_5, place_weights_6, place_answered_7, place_deeds_8, place_size_9, place_saidBits_10, place_deedCount_11⟩ := zu
    have hP : va_P D vwCl ((W_X7 a aR aT aH aD aK aI aC aS aY lastTold) ++ (W_X1 ca aH heap_kinds heap_whos heap_toWhoms heap_topics heap_weights heap_answered heap_deeds heap_size heap_saidBits heap_deedCount) ++ (W_K ca aK kept) ++ (W_X1 ca ap place_kinds_2 place_whos_3 place_toWhoms_4 place_topics_5 place_weights_6 place_answered_7 place_deeds_8 place_size_9 place_saidBits_10 place_deedCount_11)) H := hP
    have hD : va_D _ ((W_X7 a aR aT aH aD aK aI aC aS aY lastTold) ++ (W_X1 ca aH heap_kinds heap_whos heap_toWhoms heap_topics heap_weights heap_answered heap_deeds heap_size heap_saidBits heap_deedCount) ++ (W_K ca aK kept) ++ (W_X1 ca ap place_kinds_2 place_whos_3 place_toWhoms_4 place_topics_5 place_weights_6 place_answered_7 place_deeds_8 place_size_9 place_saidBits_10 place_deedCount_11)) := hD
    try dsimp only at h
    refine lv_aload_n hx hb dX7_keep_58 rfl (lv_at hl 0 rfl) ?_
    refine va_get (D := D) (ci := 6) (v := .ref (aH 0)) (C := RX7) (T := TX7) (N := 10) hx hb hts hi_X7_keepB_X7 hown hK.1 hP 0 rfl rfl 2 (by decide) (hts _ k_X7_keepB_1) (fun _ h9 => h9) rfl dX7_keep_59 ?_
    refine rd_calli (va_runV (As := []) (rest := []) ⟨hx, hb, hml, hown, hts⟩ (c_X1_howManyDeeds l D ca aH heap_kinds heap_whos heap_toWhoms heap_topics heap_weights heap_answered heap_deeds heap_size heap_saidBits heap_deedCount  _ h) (cwV 0 hts gX7_keep_X1_howManyDeeds rfl rfl rfl (by decide +kernel) ⟨Nat.le_of_ble_eq_true rfl, Nat.le_of_ble_eq_true rfl⟩) (PcX.preV (q := (RX1, TX1, 10)) (ci := 1) (q0 := 1) hK hP rfl rfl (hP.subM [1, 2, 3, 4, 5, 6, 7, 8] rfl)) rfl rfl hl.1 rfl (lv_room (Nat.le_of_ble_eq_true rfl)) dX7_keep_62 ⟨Nat.le_of_ble_eq_true rfl, Nat.le_of_ble_eq_true rfl⟩) (fun r12 h => ?_)
    try dsimp only at h
    exact W.iret (v := r12) hx hb hr (fun zt ht hW => ⟨⟨r12, (place_kinds_2, place_whos_3, place_toWhoms_4, place_topics_5, place_weights_6, place_answered_7, place_deeds_8, place_size_9, place_saidBits_10, place_deedCount_11), rfl, h, by rw [ht]; exact hP⟩, hS.F ht⟩) hS.2.2 dX7_keep_65
  unfold wp_X7_keepB at h
  refine lv_iload_n hx hb dX7_keep_0 rfl (lv_at hl 1 rfl) ?_
  refine lv_if_lt (tgt := 9) hx hb dX7_keep_1 (by decide) (fun hc => ?_) (fun hc => ?_)
  · have h := h.1 hc
    refine lv_iconst (v := (-1)) hx hb dX7_keep_9 (by decide) ?_
    exact W.iret (v := (-1 : Int32)) hx hb hr (fun zt ht hW => ⟨⟨(-1 : Int32), (place_kinds, place_whos, place_toWhoms, place_topics, place_weights, place_answered, place_deeds, place_size, place_saidBits, place_deedCount), rfl, h, by rw [ht]; exact hP⟩, hS.F ht⟩) hS.2.2 dX7_keep_10
  · have h := h.2 hc
    refine lv_iload_n hx hb dX7_keep_4 rfl (lv_at hl 1 rfl) ?_
    refine lv_iconst (v := (3)) hx hb dX7_keep_5 (by decide) ?_
    refine lv_icmp_lt (tgt := 11) hx hb dX7_keep_6 (by decide) (fun hc => ?_) (fun hc => ?_)
    · have h := h.1 hc
      refine lv_aload_n hx hb dX7_keep_11 rfl (lv_at hl 0 rfl) ?_
      refine va_get (D := D) (ci := 6) (v := .ref (aH 0)) (C := RX7) (T := TX7) (N := 10) hx hb hts hi_X7_keepB_X7 hown hK.1 hP 0 rfl rfl 2 (by decide) (hts _ k_X7_keepB_1) (fun _ h9 => h9) rfl dX7_keep_12 ?_
      refine rd_calli (va_runV (As := []) (rest := []) ⟨hx, hb, hml, hown, hts⟩ (c_X1_howMany l D ca aH heap_kinds heap_whos heap_toWhoms heap_topics heap_weights heap_answered heap_deeds heap_size heap_saidBits heap_deedCount  _ h) (cwV 0 hts gX7_keep_X1_howMany rfl rfl rfl (by decide +kernel) ⟨Nat.le_of_ble_eq_true rfl, Nat.le_of_ble_eq_true rfl⟩) (PcX.preV (q := (RX1, TX1, 10)) (ci := 1) (q0 := 1) hK hP rfl rfl (hP.subM [1, 2, 3, 4, 5, 6, 7, 8] rfl)) rfl rfl hl.1 rfl (lv_room (Nat.le_of_ble_eq_true rfl)) dX7_keep_15 ⟨Nat.le_of_ble_eq_true rfl, Nat.le_of_ble_eq_true rfl⟩) (fun r1 h => ?_)
      try dsimp only at h
      refine lv_if_ne (tgt := 24) hx hb dX7_keep_18 (by decide) (fun hc => ?_) (fun hc => ?_)
      · have h := h.1 hc
        refine lv_aload_n hx hb dX7_keep_24 rfl (lv_at hl 0 rfl) ?_
        refine va_get (D := D) (ci := 6) (v := .ref aK) (C := RX7) (T := TX7) (N := 10) hx hb hts hi_X7_keepB_X7 hown hK.1 hP 0 rfl rfl 4 (by decide) (hts _ k_X7_keepB_2) (fun _ h9 => h9) rfl dX7_keep_25 ?_
        refine lv_iload_n hx hb dX7_keep_28 rfl (lv_at hl 1 rfl) ?_
        obtain ⟨hi, h⟩ := h
        obtain ⟨hkp, h⟩ := h
        refine x_aldS hx hb hK hP 9 rfl hi hkp dX7_keep_29 ?_
        refine lv_astore_n (lv' := [(2, .ref (ap 0)), (0, .ref (a 0)), (1, .int k)]) hx hb dX7_keep_30 rfl hl (by decide) rfl (fun ls hl => ?_)
        refine lv_aload_n hx hb dX7_keep_31 rfl (lv_at hl 0 rfl) ?_
        refine lv_ifnonnull (tgt := 50) hx hb dX7_keep_32 (by decide) ?_
        exact w_50  place_kinds place_whos place_toWhoms place_topics place_weights place_answered place_deeds place_size place_saidBits place_deedCount h _ _ hP hD hS ls (lv_sub hl [1, 0] rfl)
      · have h := h.2 hc
        refine lv_bipush (v := (-4)) hx hb dX7_keep_21 (by decide) ?_
        exact W.iret (v := (-4 : Int32)) hx hb hr (fun zt ht hW => ⟨⟨(-4 : Int32), (place_kinds, place_whos, place_toWhoms, place_topics, place_weights, place_answered, place_deeds, place_size, place_saidBits, place_deedCount), rfl, h, by rw [ht]; exact hP⟩, hS.F ht⟩) hS.2.2 dX7_keep_23
    · have h := h.2 hc
      refine lv_iconst (v := (-1)) hx hb dX7_keep_9 (by decide) ?_
      exact W.iret (v := (-1 : Int32)) hx hb hr (fun zt ht hW => ⟨⟨(-1 : Int32), (place_kinds, place_whos, place_toWhoms, place_topics, place_weights, place_answered, place_deeds, place_size, place_saidBits, place_deedCount), rfl, h, by rw [ht]; exact hP⟩, hS.F ht⟩) hS.2.2 dX7_keep_10

-- IronedQuarrels.on(I)I
def wp_X7_onA (kept : Nat → Option Nat) (tally_often : Nat → Int32) (tally_latest : Int32) (k : Int32) (post : Int32 → (Nat → Int32) → (Int32) → Prop) : Prop :=
  (k < 0 → (post (-1 : Int32) tally_often tally_latest)) ∧ (¬ k < 0 → ((k < (3 : Int32) → (vp_in k 3 ∧ (kept k.toNatClampNeg) = none ∧ wp_X6_note tally_often (1 : Int32) (fun r1 tally_often_2 tally_latest_3 => post r1 tally_often_2 tally_latest_3))) ∧ (¬ k < (3 : Int32) → (post (-1 : Int32) tally_often tally_latest))))
def rm_X7_onA : Room := { frames := 1, cells := 0, slots := 0, locals := 21 }
theorem k_X7_onA_1 : Cond.fieldLink RX7 31 "IronedQuarrels" "kept" "[LIronedQuarrels$Heap;" ∈ wsX7_on := List.mem_of_getElem? (i := 1) (by decide +kernel)
theorem k_X7_onA_2 : Cond.fieldLink RX7 59 "IronedQuarrels" "tally" "LIronedQuarrels$Tally;" ∈ wsX7_on := List.mem_of_getElem? (i := 2) (by decide +kernel)
theorem hi_X7_onA_X1 : ∀ w ∈ wsX10, w ∈ wsX7_on := fun w h => List.mem_cons_of_mem _ (List.mem_append_right _ h)
theorem hi_X7_onA_X6 : ∀ w ∈ wsX60, w ∈ wsX7_on := fun w h => List.mem_cons_of_mem _ (List.mem_append_left _ (List.mem_append_right _ h))
theorem hi_X7_onA_X7 : ∀ w ∈ wsX70, w ∈ wsX7_on := fun w h => List.mem_cons_of_mem _ (List.mem_append_left _ (List.mem_append_left _ (List.mem_append_right _ h)))
set_option maxHeartbeats 4000000 in
set_option maxRecDepth 100000 in
theorem c_X7_onA (l : Launch) (D : va_G) (ca : Nat → ClassId) (a : Nat → Nat) (aR : Nat → Nat) (aT : Nat → Nat) (aH : Nat → Nat) (aD : Nat → Nat) (aK : Nat) (aI : Nat → Nat) (aC : Nat → Nat) (aS : Nat → Nat) (aY : Nat → Nat) (lastTold : Int32) (heap_kinds : Nat → Int32) (heap_whos : Nat → Int32) (heap_toWhoms : Nat → Int32) (heap_topics : Nat → Int32) (heap_weights : Nat → Int32) (heap_answered : Nat → Int32) (heap_deeds : Nat → Int32) (heap_size : Int32) (heap_saidBits : Int32) (heap_deedCount : Int32) (kept : Nat → Option Nat) (tally_often : Nat → Int32) (tally_latest : Int32) (k : Int32) (post : Int32 → (Nat → Int32) → (Int32) → Prop) (hd : va_D (fun _ => True) ((W_X7 a aR aT aH aD aK aI aC aS aY lastTold) ++ (W_X1 ca aH heap_kinds heap_whos heap_toWhoms heap_topics heap_weights heap_answered heap_deeds heap_size heap_saidBits heap_deedCount) ++ (W_K ca aK kept) ++ (W_X6 ca aY tally_often tally_latest))) (h : wp_X7_onA kept tally_often tally_latest k post) : Met l yX7_on wsX7_on rm_X7_onA (PcX D ca [.ref (a 0), .int k] ((W_X7 a aR aT aH aD aK aI aC aS aY lastTold) ++ (W_X1 ca aH heap_kinds heap_whos heap_toWhoms heap_topics heap_weights heap_answered heap_deeds heap_size heap_saidBits heap_deedCount) ++ (W_K ca aK kept) ++ (W_X6 ca aY tally_often tally_latest))) (wrI (S := (Nat → Int32) × (Int32)) D ((W_X7 a aR aT aH aD aK aI aC aS aY lastTold) ++ (W_X1 ca aH heap_kinds heap_whos heap_toWhoms heap_topics heap_weights heap_answered heap_deeds heap_size heap_saidBits heap_deedCount) ++ (W_K ca aK kept) ++ (W_X6 ca aY tally_often tally_latest)) (fun zu => (W_X7 a aR aT aH aD aK aI aC aS aY lastTold) ++ (W_X1 ca aH heap_kinds heap_whos heap_toWhoms heap_topics heap_weights heap_answered heap_deeds heap_size heap_saidBits heap_deedCount) ++ (W_K ca aK kept) ++ (W_X6 ca aY zu.1 zu.2)) (fun zr zu => post zr zu.1 zu.2)) 0 0 (adr ((W_X7 a aR aT aH aD aK aI aC aS aY lastTold) ++ (W_X1 ca aH heap_kinds heap_whos heap_toWhoms heap_topics heap_weights heap_answered heap_deeds heap_size heap_saidBits heap_deedCount) ++ (W_K ca aK kept) ++ (W_X6 ca aY tally_often tally_latest))) := by
  refine Met.ofW (cc := cX7_on) (maxL := 3) (ret := (some .int)) (by decide) rfl ?_
  intro zp ze zs zm za zb zt zc z1 B hml hv
  obtain ⟨rfl, hP, hK⟩ := hv
  have hx := B.exec
  have hb := B.bytes
  have hr := B.returns
  have hts := atoms_spec (ws := wsX7_on) B.pre
  have hown : zs.vm.findClass RX7 = some zm.cls := findClass_of_methodNamed B.named
  have hlocks := B.notSynchronized
  have hD : va_D (adr ((W_X7 a aR aT aH aD aK aI aC aS aY lastTold) ++ (W_X1 ca aH heap_kinds heap_whos heap_toWhoms heap_topics heap_weights heap_answered heap_deeds heap_size heap_saidBits heap_deedCount) ++ (W_K ca aK kept) ++ (W_X6 ca aY tally_often tally_latest))) ((W_X7 a aR aT aH aD aK aI aC aS aY lastTold) ++ (W_X1 ca aH heap_kinds heap_whos heap_toWhoms heap_topics heap_weights heap_answered heap_deeds heap_size heap_saidBits heap_deedCount) ++ (W_K ca aK kept) ++ (W_X6 ca aY tally_often tally_latest)) := hd.adr
  have hS : va_S (adr ((W_X7 a aR aT aH aD aK aI aC aS aY lastTold) ++ (W_X1 ca aH heap_kinds heap_whos heap_toWhoms heap_topics heap_weights heap_answered heap_deeds heap_size heap_saidBits heap_deedCount) ++ (W_K ca aK kept) ++ (W_X6 ca aY tally_often tally_latest))) zs.heap zs.heap [] := va_S.rf
  have hl := lv_entry ([.ref (a 0), .int k]) (n := 3) (Nat.le_of_ble_eq_true rfl)
  rw [lg_entry_eq]
  generalize (lg_sl ([.ref (a 0), .int k]) ++ List.replicate (3 - (lg_sl ([.ref (a 0), .int k])).length) Slot.unset).toArray = ls at hl ⊢
  replace hl : lv_has ls 3 [(0, .ref (a 0)), (1, .int k)] := hl
  show W zp l ze rm_X7_onA zs zm ([.ref (a 0), .int k] : List Value).toArray zb zt zc zs.heap [] 0 0 (MQ zb (wrI (S := (Nat → Int32) × (Int32)) D ((W_X7 a aR aT aH aD aK aI aC aS aY lastTold) ++ (W_X1 ca aH heap_kinds heap_whos heap_toWhoms heap_topics heap_weights heap_answered heap_deeds heap_size heap_saidBits heap_deedCount) ++ (W_K ca aK kept) ++ (W_X6 ca aY tally_often tally_latest)) (fun zu => (W_X7 a aR aT aH aD aK aI aC aS aY lastTold) ++ (W_X1 ca aH heap_kinds heap_whos heap_toWhoms heap_topics heap_weights heap_answered heap_deeds heap_size heap_saidBits heap_deedCount) ++ (W_K ca aK kept) ++ (W_X6 ca aY zu.1 zu.2)) (fun zr zu => post zr zu.1 zu.2)) ([.ref (a 0), .int k] : List Value).toArray zs 0 0 (adr ((W_X7 a aR aT aH aD aK aI aC aS aY lastTold) ++ (W_X1 ca aH heap_kinds heap_whos heap_toWhoms heap_topics heap_weights heap_answered heap_deeds heap_size heap_saidBits heap_deedCount) ++ (W_K ca aK kept) ++ (W_X6 ca aY tally_often tally_latest)))) (F0 zm 0 ls [])
  unfold wp_X7_onA at h
  refine lv_iload_n hx hb dX7_on_0 rfl (lv_at hl 1 rfl) ?_
  refine lv_if_lt (tgt := 9) hx hb dX7_on_1 (by decide) (fun hc => ?_) (fun hc => ?_)
  · have h := h.1 hc
    refine lv_iconst (v := (-1)) hx hb dX7_on_9 (by decide) ?_
    exact W.iret (v := (-1 : Int32)) hx hb hr (fun zt ht hW => ⟨⟨(-1 : Int32), (tally_often, tally_latest), rfl, h, by rw [ht]; exact hP⟩, hS.F ht⟩) hS.2.2 dX7_on_10
  · have h := h.2 hc
    refine lv_iload_n hx hb dX7_on_4 rfl (lv_at hl 1 rfl) ?_
    refine lv_iconst (v := (3)) hx hb dX7_on_5 (by decide) ?_
    refine lv_icmp_lt (tgt := 11) hx hb dX7_on_6 (by decide) (fun hc => ?_) (fun hc => ?_)
    · have h := h.1 hc
      refine lv_aload_n hx hb dX7_on_11 rfl (lv_at hl 0 rfl) ?_
      refine va_get (D := D) (ci := 6) (v := .ref aK) (C := RX7) (T := TX7) (N := 10) hx hb hts hi_X7_onA_X7 hown hK.1 hP 0 rfl rfl 4 (by decide) (hts _ k_X7_onA_1) (fun _ h9 => h9) rfl dX7_on_12 ?_
      refine lv_iload_n hx hb dX7_on_15 rfl (lv_at hl 1 rfl) ?_
      obtain ⟨hi, h⟩ := h
      refine x_aldq hx hb hK hP 9 rfl hi dX7_on_16 ?_
      refine x_astoreq_n (lv' := [(2, va_rf (kept k.toNatClampNeg)), (0, .ref (a 0)), (1, .int k)]) hx hb dX7_on_17 rfl hl (by decide) rfl (fun ls hl => ?_)
      refine x_aloadq_n hx hb dX7_on_18 rfl (lv_at hl 0 rfl) ?_
      obtain ⟨hcn, h⟩ := h
      refine x_nnul (tgt := 31) hx hb dX7_on_19 (by decide) (fun hc => absurd hcn hc) (fun _ => ?_)
      refine lv_aload_n hx hb dX7_on_22 rfl (lv_at hl 1 rfl) ?_
      refine va_get (D := D) (ci := 6) (v := .ref (aY 0)) (C := RX7) (T := TX7) (N := 10) hx hb hts hi_X7_onA_X7 hown hK.1 hP 0 rfl rfl 8 (by decide) (hts _ k_X7_onA_2) (fun _ h9 => h9) rfl dX7_on_23 ?_
      refine lv_iconst (v := (1)) hx hb dX7_on_26 (by decide) ?_
      refine wr_calli (ws1 := fun zu => (W_X7 a aR aT aH aD aK aI aC aS aY lastTold) ++ (W_X1 ca aH heap_kinds heap_whos heap_toWhoms heap_topics heap_weights heap_answered heap_deeds heap_size heap_saidBits heap_deedCount) ++ (W_K ca aK kept) ++ (W_X6 ca aY zu.1 zu.2)) (wr := ([0, 1, 2, 3, 4, 5, 6, 7, 8, 9] : List Nat).filterMap (fun zi => ((W_X7 a aR aT aH aD aK aI aC aS aY lastTold) ++ (W_X1 ca aH heap_kinds heap_whos heap_toWhoms heap_topics heap_weights heap_answered heap_deeds heap_size heap_saidBits heap_deedCount) ++ (W_K ca aK kept) ++ (W_X6 ca aY tally_often tally_latest) : va_W)[zi]?)) (n := 12) (va_runV (As := [.int (1 : Int32)]) (rest := []) ⟨hx, hb, hml, hown, hts⟩ (c_X6_note l D ca aY tally_often tally_latest (1 : Int32) _ (hD.subM [10, 11] (by decide) rfl) h) (cwV 1 hts gX7_on_X6_note rfl rfl rfl (by decide +kernel) ⟨Nat.le_of_ble_eq_true rfl, Nat.le_of_ble_eq_true rfl⟩) (PcX.preV (q := (RX6, TX6, 2)) (ci := 5) (q0 := 10) hK hP rfl rfl (hP.subM [10, 11] rfl)) rfl rfl hl.1 rfl (lv_room (Nat.le_of_ble_eq_true rfl)) dX7_on_27 ⟨Nat.le_of_ble_eq_true rfl, Nat.le_of_ble_eq_true rfl⟩) hP hD hS [10, 11] [0, 1, 2, 3, 4, 5, 6, 7, 8, 9] rfl (fun _ => rfl) rfl (fun _ => rfl) (fun _ => rfl) (fun _ => rfl) (by decide +kernel) (by decide +kernel) (fun r1 zu H locs h hP hD hS => ?_)
      obtain ⟨tally_often_2, tally_latest_3⟩ := zu
      have hP : va_P D vwCl ((W_X7 a aR aT aH aD aK aI aC aS aY lastTold) ++ (W_X1 ca aH heap_kinds heap_whos heap_toWhoms heap_topics heap_weights heap_answered heap_deeds heap_size heap_saidBits heap_deedCount) ++ (W_K ca aK kept) ++ (W_X6 ca aY tally_often_2 tally_latest_3)) H := hP
      have hD : va_D _ ((W_X7 a aR aT aH aD aK aI aC aS aY lastTold) ++ (W_X1 ca aH heap_kinds heap_whos heap_toWhoms heap_topics heap_weights heap_answered heap_deeds heap_size heap_saidBits heap_deedCount) ++ (W_K ca aK kept) ++ (W_X6 ca aY tally_often_2 tally_latest_3)) := hD
      try dsimp only at h
      exact W.iret (v := r1) hx hb hr (fun zt ht hW => ⟨⟨r1, (tally_often_2, tally_latest_3), rfl, h, by rw [ht]; exact hP⟩, hS.F ht⟩) hS.2.2 dX7_on_30
    · have h := h.2 hc
      refine lv_iconst (v := (-1)) hx hb dX7_on_9 (by decide) ?_
      exact W.iret (v := (-1 : Int32)) hx hb hr (fun zt ht hW => ⟨⟨(-1 : Int32), (tally_often, tally_latest), rfl, h, by rw [ht]; exact hP⟩, hS.F ht⟩) hS.2.2 dX7_on_10

-- IronedQuarrels.on(I)I
def wp_X7_onB (heap_kinds : Nat → Int32) (heap_whos : Nat → Int32) (heap_toWhoms : Nat → Int32) (heap_topics : Nat → Int32) (heap_weights : Nat → Int32) (heap_answered : Nat → Int32) (heap_deeds : Nat → Int32) (heap_size : Int32) (heap_saidBits : Int32) (heap_deedCount : Int32) (kept : Nat → Option Nat) (place_kinds : Nat → Int32) (place_whos : Nat → Int32) (place_toWhoms : Nat → Int32) (place_topics : Nat → Int32) (place_weights : Nat → Int32) (place_answered : Nat → Int32) (place_deeds : Nat → Int32) (place_size : Int32) (place_saidBits : Int32) (place_deedCount : Int32) (k : Int32) (zq : Nat) (post : Int32 → (Nat → Int32) → (Nat → Int32) → (Nat → Int32) → (Nat → Int32) → (Nat → Int32) → (Nat → Int32) → (Nat → Int32) → (Int32) → (Int32) → (Int32) → Prop) : Prop :=
  (k < 0 → (post (-1 : Int32) heap_kinds heap_whos heap_toWhoms heap_topics heap_weights heap_answered heap_deeds heap_size heap_saidBits heap_deedCount)) ∧ (¬ k < 0 → ((k < (3 : Int32) → (vp_in k 3 ∧ kept k.toNatClampNeg = some zq ∧ wp_X1_becomeLike heap_kinds heap_whos heap_toWhoms heap_topics heap_weights heap_answered heap_deeds place_kinds place_whos place_toWhoms place_topics place_weights place_answered place_deeds place_size place_saidBits place_deedCount (fun heap_kinds_1 heap_whos_2 heap_toWhoms_3 heap_topics_4 heap_weights_5 heap_answered_6 heap_deeds_7 heap_size_8 heap_saidBits_9 heap_deedCount_10 => wp_X1_howManyDeeds heap_deedCount_10 (fun r11 => post r11 heap_kinds_1 heap_whos_2 heap_toWhoms_3 heap_topics_4 heap_weights_5 heap_answered_6 heap_deeds_7 heap_size_8 heap_saidBits_9 heap_deedCount_10)))) ∧ (¬ k < (3 : Int32) → (post (-1 : Int32) heap_kinds heap_whos heap_toWhoms heap_topics heap_weights heap_answered heap_deeds heap_size heap_saidBits heap_deedCount))))
def rm_X7_onB : Room := { frames := 2, cells := 0, slots := 0, locals := 61 }
theorem k_X7_onB_1 : Cond.fieldLink RX7 31 "IronedQuarrels" "kept" "[LIronedQuarrels$Heap;" ∈ wsX7_on := List.mem_of_getElem? (i := 1) (by decide +kernel)
theorem k_X7_onB_3 : Cond.fieldLink RX7 24 "IronedQuarrels" "heap" "LIronedQuarrels$Heap;" ∈ wsX7_on := List.mem_of_getElem? (i := 3) (by decide +kernel)
theorem hi_X7_onB_X1 : ∀ w ∈ wsX10, w ∈ wsX7_on := fun w h => List.mem_cons_of_mem _ (List.mem_append_right _ h)
theorem hi_X7_onB_X6 : ∀ w ∈ wsX60, w ∈ wsX7_on := fun w h => List.mem_cons_of_mem _ (List.mem_append_left _ (List.mem_append_right _ h))
theorem hi_X7_onB_X7 : ∀ w ∈ wsX70, w ∈ wsX7_on := fun w h => List.mem_cons_of_mem _ (List.mem_append_left _ (List.mem_append_left _ (List.mem_append_right _ h)))
set_option maxHeartbeats 4000000 in
set_option maxRecDepth 100000 in
theorem c_X7_onB (l : Launch) (D : va_G) (ca : Nat → ClassId) (a : Nat → Nat) (aR : Nat → Nat) (aT : Nat → Nat) (aH : Nat → Nat) (aD : Nat → Nat) (aK : Nat) (aI : Nat → Nat) (aC : Nat → Nat) (aS : Nat → Nat) (aY : Nat → Nat) (ap : Nat → Nat) (lastTold : Int32) (heap_kinds : Nat → Int32) (heap_whos : Nat → Int32) (heap_toWhoms : Nat → Int32) (heap_topics : Nat → Int32) (heap_weights : Nat → Int32) (heap_answered : Nat → Int32) (heap_deeds : Nat → Int32) (heap_size : Int32) (heap_saidBits : Int32) (heap_deedCount : Int32) (kept : Nat → Option Nat) (tally_often : Nat → Int32) (tally_latest : Int32) (place_kinds : Nat → Int32) (place_whos : Nat → Int32) (place_toWhoms : Nat → Int32) (place_topics : Nat → Int32) (place_weights : Nat → Int32) (place_answered : Nat → Int32) (place_deeds : Nat → Int32) (place_size : Int32) (place_saidBits : Int32) (place_deedCount : Int32) (k : Int32) (post : Int32 → (Nat → Int32) → (Nat → Int32) → (Nat → Int32) → (Nat → Int32) → (Nat → Int32) → (Nat → Int32) → (Nat → Int32) → (Int32) → (Int32) → (Int32) → Prop) (hd : va_D (fun _ => True) ((W_X7 a aR aT aH aD aK aI aC aS aY lastTold) ++ (W_X1 ca aH heap_kinds heap_whos heap_toWhoms heap_topics heap_weights heap_answered heap_deeds heap_size heap_saidBits heap_deedCount) ++ (W_K ca aK kept) ++ (W_X6 ca aY tally_often tally_latest) ++ (W_X1 ca ap place_kinds place_whos place_toWhoms place_topics place_weights place_answered place_deeds place_size place_saidBits place_deedCount))) (h : wp_X7_onB heap_kinds heap_whos heap_toWhoms heap_topics heap_weights heap_answered heap_deeds heap_size heap_saidBits heap_deedCount kept place_kinds place_whos place_toWhoms place_topics place_weights place_answered place_deeds place_size place_saidBits place_deedCount k (ap 0) post) : Met l yX7_on wsX7_on rm_X7_onB (PcX D ca [.ref (a 0), .int k] ((W_X7 a aR aT aH aD aK aI aC aS aY lastTold) ++ (W_X1 ca aH heap_kinds heap_whos heap_toWhoms heap_topics heap_weights heap_answered heap_deeds heap_size heap_saidBits heap_deedCount) ++ (W_K ca aK kept) ++ (W_X6 ca aY tally_often tally_latest) ++ (W_X1 ca ap place_kinds place_whos place_toWhoms place_topics place_weights place_answered place_deeds place_size place_saidBits place_deedCount))) (wrI (S := (Nat → Int32) × (Nat → Int32) × (Nat → Int32) × (Nat → Int32) × (Nat → Int32) × (Nat → Int32) × (Nat → Int32) × (Int32) × (Int32) × (Int32)) D ((W_X7 a aR aT aH aD aK aI aC aS aY lastTold) ++ (W_X1 ca aH heap_kinds heap_whos heap_toWhoms heap_topics heap_weights heap_answered heap_deeds heap_size heap_saidBits heap_deedCount) ++ (W_K ca aK kept) ++ (W_X6 ca aY tally_often tally_latest) ++ (W_X1 ca ap place_kinds place_whos place_toWhoms place_topics place_weights place_answered place_deeds place_size place_saidBits place_deedCount)) (fun zu => (W_X7 a aR aT aH aD aK aI aC aS aY lastTold) ++ (W_X1 ca aH zu.1 zu.2.1 zu.2.2.1 zu.2.2.2.1 zu.2.2.2.2.1 zu.2.2.2.2.2.1 zu.2.2.2.2.2.2.1 zu.2.2.2.2.2.2.2.1 zu.2.2.2.2.2.2.2.2.1 zu.2.2.2.2.2.2.2.2.2) ++ (W_K ca aK kept) ++ (W_X6 ca aY tally_often tally_latest) ++ (W_X1 ca ap place_kinds place_whos place_toWhoms place_topics place_weights place_answered place_deeds place_size place_saidBits place_deedCount)) (fun zr zu => post zr zu.1 zu.2.1 zu.2.2.1 zu.2.2.2.1 zu.2.2.2.2.1 zu.2.2.2.2.2.1 zu.2.2.2.2.2.2.1 zu.2.2.2.2.2.2.2.1 zu.2.2.2.2.2.2.2.2.1 zu.2.2.2.2.2.2.2.2.2)) 0 0 (adr ((W_X7 a aR aT aH aD aK aI aC aS aY lastTold) ++ (W_X1 ca aH heap_kinds heap_whos heap_toWhoms heap_topics heap_weights heap_answered heap_deeds heap_size heap_saidBits heap_deedCount) ++ (W_K ca aK kept) ++ (W_X6 ca aY tally_often tally_latest) ++ (W_X1 ca ap place_kinds place_whos place_toWhoms place_topics place_weights place_answered place_deeds place_size place_saidBits place_deedCount))) := by
  refine Met.ofW (cc := cX7_on) (maxL := 3) (ret := (some .int)) (by decide) rfl ?_
  intro zp ze zs zm za zb zt zc z1 B hml hv
  obtain ⟨rfl, hP, hK⟩ := hv
  have hx := B.exec
  have hb := B.bytes
  have hr := B.returns
  have hts := atoms_spec (ws := wsX7_on) B.pre
  have hown : zs.vm.findClass RX7 = some zm.cls := findClass_of_methodNamed B.named
  have hlocks := B.notSynchronized
  have hD : va_D (adr ((W_X7 a aR aT aH aD aK aI aC aS aY lastTold) ++ (W_X1 ca aH heap_kinds heap_whos heap_toWhoms heap_topics heap_weights heap_answered heap_deeds heap_size heap_saidBits heap_deedCount) ++ (W_K ca aK kept) ++ (W_X6 ca aY tally_often tally_latest) ++ (W_X1 ca ap place_kinds place_whos place_toWhoms place_topics place_weights place_answered place_deeds place_size place_saidBits place_deedCount))) ((W_X7 a aR aT aH aD aK aI aC aS aY lastTold) ++ (W_X1 ca aH heap_kinds heap_whos heap_toWhoms heap_topics heap_weights heap_answered heap_deeds heap_size heap_saidBits heap_deedCount) ++ (W_K ca aK kept) ++ (W_X6 ca aY tally_often tally_latest) ++ (W_X1 ca ap place_kinds place_whos place_toWhoms place_topics place_weights place_answered place_deeds place_size place_saidBits place_deedCount)) := hd.adr
  have hS : va_S (adr ((W_X7 a aR aT aH aD aK aI aC aS aY lastTold) ++ (W_X1 ca aH heap_kinds heap_whos heap_toWhoms heap_topics heap_weights heap_answered heap_deeds heap_size heap_saidBits heap_deedCount) ++ (W_K ca aK kept) ++ (W_X6 ca aY tally_often tally_latest) ++ (W_X1 ca ap place_kinds place_whos place_toWhoms place_topics place_weights place_answered place_deeds place_size place_saidBits place_deedCount))) zs.heap zs.heap [] := va_S.rf
  have hl := lv_entry ([.ref (a 0), .int k]) (n := 3) (Nat.le_of_ble_eq_true rfl)
  rw [lg_entry_eq]
  generalize (lg_sl ([.ref (a 0), .int k]) ++ List.replicate (3 - (lg_sl ([.ref (a 0), .int k])).length) Slot.unset).toArray = ls at hl ⊢
  replace hl : lv_has ls 3 [(0, .ref (a 0)), (1, .int k)] := hl
  show W zp l ze rm_X7_onB zs zm ([.ref (a 0), .int k] : List Value).toArray zb zt zc zs.heap [] 0 0 (MQ zb (wrI (S := (Nat → Int32) × (Nat → Int32) × (Nat → Int32) × (Nat → Int32) × (Nat → Int32) × (Nat → Int32) × (Nat → Int32) × (Int32) × (Int32) × (Int32)) D ((W_X7 a aR aT aH aD aK aI aC aS aY lastTold) ++ (W_X1 ca aH heap_kinds heap_whos heap_toWhoms heap_topics heap_weights heap_answered heap_deeds heap_size heap_saidBits heap_deedCount) ++ (W_K ca aK kept) ++ (W_X6 ca aY tally_often tally_latest) ++ (W_X1 ca ap place_kinds place_whos place_toWhoms place_topics place_weights place_answered place_deeds place_size place_saidBits place_deedCount)) (fun zu => (W_X7 a aR aT aH aD aK aI aC aS aY lastTold) ++ (W_X1 ca aH zu.1 zu.2.1 zu.2.2.1 zu.2.2.2.1 zu.2.2.2.2.1 zu.2.2.2.2.2.1 zu.2.2.2.2.2.2.1 zu.2.2.2.2.2.2.2.1 zu.2.2.2.2.2.2.2.2.1 zu.2.2.2.2.2.2.2.2.2) ++ (W_K ca aK kept) ++ (W_X6 ca aY tally_often tally_latest) ++ (W_X1 ca ap place_kinds place_whos place_toWhoms place_topics place_weights place_answered place_deeds place_size place_saidBits place_deedCount)) (fun zr zu => post zr zu.1 zu.2.1 zu.2.2.1 zu.2.2.2.1 zu.2.2.2.2.1 zu.2.2.2.2.2.1 zu.2.2.2.2.2.2.1 zu.2.2.2.2.2.2.2.1 zu.2.2.2.2.2.2.2.2.1 zu.2.2.2.2.2.2.2.2.2)) ([.ref (a 0), .int k] : List Value).toArray zs 0 0 (adr ((W_X7 a aR aT aH aD aK aI aC aS aY lastTold) ++ (W_X1 ca aH heap_kinds heap_whos heap_toWhoms heap_topics heap_weights heap_answered heap_deeds heap_size heap_saidBits heap_deedCount) ++ (W_K ca aK kept) ++ (W_X6 ca aY tally_often tally_latest) ++ (W_X1 ca ap place_kinds place_whos place_toWhoms place_topics place_weights place_answered place_deeds place_size place_saidBits place_deedCount)))) (F0 zm 0 ls [])
  unfold wp_X7_onB at h
  refine lv_iload_n hx hb dX7_on_0 rfl (lv_at hl 1 rfl) ?_
  refine lv_if_lt (tgt := 9) hx hb dX7_on_1 (by decide) (fun hc => ?_) (fun hc => ?_)
  · have h := h.1 hc
    refine lv_iconst (v := (-1)) hx hb dX7_on_9 (by decide) ?_
    exact W.iret (v := (-1 : Int32)) hx hb hr (fun zt ht hW => ⟨⟨(-1 : Int32), (heap_kinds, heap_whos, heap_toWhoms, heap_topics, heap_weights, heap_answered, heap_deeds, heap_size, heap_saidBits, heap_deedCount), rfl, h, by rw [ht]; exact hP⟩, hS.F ht⟩) hS.2.2 dX7_on_10
  · have h := h.2 hc
    refine lv_iload_n hx hb dX7_on_4 rfl (lv_at hl 1 rfl) ?_
    refine lv_iconst (v := (3)) hx hb dX7_on_5 (by decide) ?_
    refine lv_icmp_lt (tgt := 11) hx hb dX7_on_6 (by decide) (fun hc => ?_) (fun hc => ?_)
    · have h := h.1 hc
      refine lv_aload_n hx hb dX7_on_11 rfl (lv_at hl 0 rfl) ?_
      refine va_get (D := D) (ci := 6) (v := .ref aK) (C := RX7) (T := TX7) (N := 10) hx hb hts hi_X7_onB_X7 hown hK.1 hP 0 rfl rfl 4 (by decide) (hts _ k_X7_onB_1) (fun _ h9 => h9) rfl dX7_on_12 ?_
      refine lv_iload_n hx hb dX7_on_15 rfl (lv_at hl 1 rfl) ?_
      obtain ⟨hi, h⟩ := h
      obtain ⟨hkp, h⟩ := h
      refine x_aldS hx hb hK hP 9 rfl hi hkp dX7_on_16 ?_
      refine lv_astore_n (lv' := [(2, .ref (ap 0)), (0, .ref (a 0)), (1, .int k)]) hx hb dX7_on_17 rfl hl (by decide) rfl (fun ls hl => ?_)
      refine lv_aload_n hx hb dX7_on_18 rfl (lv_at hl 0 rfl) ?_
      refine lv_ifnonnull (tgt := 31) hx hb dX7_on_19 (by decide) ?_
      refine lv_aload_n hx hb dX7_on_31 rfl (lv_at hl 1 rfl) ?_
      refine va_get (D := D) (ci := 6) (v := .ref (aH 0)) (C := RX7) (T := TX7) (N := 10) hx hb hts hi_X7_onB_X7 hown hK.1 hP 0 rfl rfl 2 (by decide) (hts _ k_X7_onB_3) (fun _ h9 => h9) rfl dX7_on_32 ?_
      refine lv_aload_n hx hb dX7_on_35 rfl (lv_at hl 0 rfl) ?_
      refine wr_callv (ws1 := fun zu => (W_X7 a aR aT aH aD aK aI aC aS aY lastTold) ++ (W_X1 ca aH zu.1 zu.2.1 zu.2.2.1 zu.2.2.2.1 zu.2.2.2.2.1 zu.2.2.2.2.2.1 zu.2.2.2.2.2.2.1 zu.2.2.2.2.2.2.2.1 zu.2.2.2.2.2.2.2.2.1 zu.2.2.2.2.2.2.2.2.2) ++ (W_K ca aK kept) ++ (W_X6 ca aY tally_often tally_latest) ++ (W_X1 ca ap place_kinds place_whos place_toWhoms place_topics place_weights place_answered place_deeds place_size place_saidBits place_deedCount)) (wr := ([0, 9, 10, 11] : List Nat).filterMap (fun zi => ((W_X7 a aR aT aH aD aK aI aC aS aY lastTold) ++ (W_X1 ca aH heap_kinds heap_whos heap_toWhoms heap_topics heap_weights heap_answered heap_deeds heap_size heap_saidBits heap_deedCount) ++ (W_K ca aK kept) ++ (W_X6 ca aY tally_often tally_latest) ++ (W_X1 ca ap place_kinds place_whos place_toWhoms place_topics place_weights place_answered place_deeds place_size place_saidBits place_deedCount) : va_W)[zi]?)) (n := 20) (va_runV (As := [.ref (ap 0)]) (rest := []) ⟨hx, hb, hml, hown, hts⟩ (c_X1_becomeLike l D ca aH ap heap_kinds heap_whos heap_toWhoms heap_topics heap_weights heap_answered heap_deeds heap_size heap_saidBits heap_deedCount place_kinds place_whos place_toWhoms place_topics place_weights place_answered place_deeds place_size place_saidBits place_deedCount  _ (hD.subM [1, 2, 3, 4, 5, 6, 7, 8, 12, 13, 14, 15, 16, 17, 18, 19] (by decide) rfl) h) (cwV 1 hts gX7_on_X1_becomeLike rfl rfl rfl (by decide +kernel) ⟨Nat.le_of_ble_eq_true rfl, Nat.le_of_ble_eq_true rfl⟩) (PcX.preV (q := (RX1, TX1, 10)) (ci := 1) (q0 := 1) hK hP rfl rfl (hP.subM [1, 2, 3, 4, 5, 6, 7, 8, 12, 13, 14, 15, 16, 17, 18, 19] rfl)) rfl rfl hl.1 rfl (lv_room (Nat.le_of_ble_eq_true rfl)) dX7_on_36 ⟨Nat.le_of_ble_eq_true rfl, Nat.le_of_ble_eq_true rfl⟩) hP hD hS [1, 2, 3, 4, 5, 6, 7, 8, 12, 13, 14, 15, 16, 17, 18, 19] [0, 9, 10, 11] rfl (fun _ => rfl) rfl (fun _ => rfl) (fun _ => rfl) (fun _ => rfl) (by decide +kernel) (by decide +kernel) (fun zu H locs h hP hD hS => ?_)
      obtain ⟨heap_kinds_1, heap_whos_2, heap_toWhoms_3, heap_topics_4, heap_weights_5, heap_answered_6, heap_deeds_7, heap_size_8, heap_saidBits_9, heap_deedCount_10⟩ := zu
      have hP : va_P D vwCl ((W_X7 a aR aT aH aD aK aI aC aS aY lastTold) ++ (W_X1 ca aH heap_kinds_1 heap_whos_2 heap_toWhoms_3 heap_topics_4 heap_weights_5 heap_answered_6 heap_deeds_7 heap_size_8 heap_saidBits_9 heap_deedCount_10) ++ (W_K ca aK kept) ++ (W_X6 ca aY tally_often tally_latest) ++ (W_X1 ca ap place_kinds place_whos place_toWhoms place_topics place_weights place_answered place_deeds place_size place_saidBits place_deedCount)) H := hP
      have hD : va_D _ ((W_X7 a aR aT aH aD aK aI aC aS aY lastTold) ++ (W_X1 ca aH heap_kinds_1 heap_whos_2 heap_toWhoms_3 heap_topics_4 heap_weights_5 heap_answered_6 heap_deeds_7 heap_size_8 heap_saidBits_9 heap_deedCount_10) ++ (W_K ca aK kept) ++ (W_X6 ca aY tally_often tally_latest) ++ (W_X1 ca ap place_kinds place_whos place_toWhoms place_topics place_weights place_answered place_deeds place_size place_saidBits place_deedCount)) := hD
      try dsimp only at h
      refine lv_aload_n hx hb dX7_on_39 rfl (lv_at hl 1 rfl) ?_
      refine va_get (D := D) (ci := 6) (v := .ref (aH 0)) (C := RX7) (T := TX7) (N := 10) hx hb hts hi_X7_onB_X7 hown hK.1 hP 0 rfl rfl 2 (by decide) (hts _ k_X7_onB_3) (fun _ h9 => h9) rfl dX7_on_40 ?_
      refine rd_calli (va_runV (As := []) (rest := []) ⟨hx, hb, hml, hown, hts⟩ (c_X1_howManyDeeds l D ca aH heap_kinds_1 heap_whos_2 heap_toWhoms_3 heap_topics_4 heap_weights_5 heap_answered_6 heap_deeds_7 heap_size_8 heap_saidBits_9 heap_deedCount_10  _ h) (cwV 0 hts gX7_on_X1_howManyDeeds rfl rfl rfl (by decide +kernel) ⟨Nat.le_of_ble_eq_true rfl, Nat.le_of_ble_eq_true rfl⟩) (PcX.preV (q := (RX1, TX1, 10)) (ci := 1) (q0 := 1) hK hP rfl rfl (hP.subM [1, 2, 3, 4, 5, 6, 7, 8] rfl)) rfl rfl hl.1 rfl (lv_room (Nat.le_of_ble_eq_true rfl)) dX7_on_43 ⟨Nat.le_of_ble_eq_true rfl, Nat.le_of_ble_eq_true rfl⟩) (fun r11 h => ?_)
      try dsimp only at h
      exact W.iret (v := r11) hx hb hr (fun zt ht hW => ⟨⟨r11, (heap_kinds_1, heap_whos_2, heap_toWhoms_3, heap_topics_4, heap_weights_5, heap_answered_6, heap_deeds_7, heap_size_8, heap_saidBits_9, heap_deedCount_10), rfl, h, by rw [ht]; exact hP⟩, hS.F ht⟩) hS.2.2 dX7_on_46
    · have h := h.2 hc
      refine lv_iconst (v := (-1)) hx hb dX7_on_9 (by decide) ?_
      exact W.iret (v := (-1 : Int32)) hx hb hr (fun zt ht hW => ⟨⟨(-1 : Int32), (heap_kinds, heap_whos, heap_toWhoms, heap_topics, heap_weights, heap_answered, heap_deeds, heap_size, heap_saidBits, heap_deedCount), rfl, h, by rw [ht]; exact hP⟩, hS.F ht⟩) hS.2.2 dX7_on_10
