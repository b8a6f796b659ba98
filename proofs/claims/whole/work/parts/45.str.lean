/-! the String constant "sotpyc": what holds of her, and that it stays -/
def lt6 : Nat → Int32
  | 0 => 115
  | 1 => 111
  | 2 => 116
  | 3 => 112
  | 4 => 121
  | _ => 99
/-- the constant is resolved, to sa -/
def LdS (sa : Nat) (U : State) : Prop := ∃ (c : ClassId) (k : Class) (cf : ClassFile) (i : Nat), U.vm.findClass RX3 = some c ∧ U.vm.classes[c]? = some k ∧ k.cf = some cf ∧ cf.constantPool[30]? = some (.string i) ∧ k.resolved[30]? = some (some (.string sa))
theorem LdS.warm {sa : Nat} {s U : State} (hW : s.WarmedH U.vm) (h : LdS sa s) : LdS sa U := by
  obtain ⟨c, k, cf, i, h1, h2, h3, h4, h5⟩ := h
  obtain ⟨k', hk', he⟩ := hW.alike.2.2 _ _ h2
  refine ⟨c, k', cf, i, by rw [hW.alike.findClass]; exact h1, hk', by rw [he]; exact h3, h4, ?_⟩
  rcases hW.entry h2 hk' 30 with q | ⟨q, -⟩
  · rw [q]; exact h5
  · rw [h5] at q; cases q
/-- a field of the String -/
def FX (sa : Nat) (n d : String) (v : Value) (U : State) (H : Heap) : Prop := ∃ (cf : ClassId) (kf : Class) (fi : Nat) (f : Field) (cell : Cell), U.fieldFound? "java/lang/String" n d = some (cf, kf, fi, f) ∧ f.isStatic = false ∧ H[sa]? = some cell ∧ cell.vm ≠ .unknown ∧ cell.vm.isStatics = false ∧ U.vm.findClass "java/lang/String" = some cell.cls ∧ cell.slots[f.slot]? = some v
theorem FX.moved {sa : Nat} {n d : String} {v : Value} {u U : State} {H : Heap} (hvm : u.vm.Alike U.vm) (h : FX sa n d v u H) : FX sa n d v U H := by
  obtain ⟨cf, kf, fi, f, cell, h1, h2, h3, h4, h5, h6, h7⟩ := h
  obtain ⟨k', hi', he⟩ := State.fieldFound?_setVm hvm h1
  exact ⟨cf, k', fi, f, cell, hi', h2, h3, h4, h5, by rw [hvm.findClass]; exact h6, h7⟩
theorem FX.kept {sa : Nat} {n d : String} {v : Value} {A : Nat → Prop} {U : State} {H H1 : Heap} (h : FX sa n d v U H) (hs : ¬ A sa) (hq : ∀ a : Nat, a < H.size → ¬ A a → H1[a]? = H[a]?) : FX sa n d v U H1 := by
  obtain ⟨cf, kf, fi, f, cell, h1, h2, h3, h4⟩ := h
  exact ⟨cf, kf, fi, f, cell, h1, h2, by rw [hq sa (Array.getElem?_eq_some_iff.mp h3).1 hs]; exact h3, h4⟩
def sFm : String := "Ljava/util/function/BiFunction;"
/-- all that the class's reading asks of the constant -/
def SX (sa sd : Nat) (A : Nat → Prop) (U : State) (H : Heap) : Prop := LdS sa U ∧ ¬ A sa ∧ FX sa "value" "[B" (.ref sd) U H ∧ FX sa "coder" "B" (.int 0) U H ∧ va_T .byte sd 6 (fun j => .int (lt6 j)) A U H ∧ va_Z "java/lang/String" "COMPACT_STRINGS" "Z" (.int 1) A U H ∧ va_Zq "jdk/internal/util/Preconditions" "SIOOBE_FORMATTER" "Ljava/util/function/BiFunction;" A U H
theorem SX.warm {sa sd : Nat} {A : Nat → Prop} {s U : State} {H : Heap} (hW : s.WarmedH U.vm) (h : SX sa sd A s H) : SX sa sd A U H := ⟨h.1.warm hW, h.2.1, h.2.2.1.moved hW.alike, h.2.2.2.1.moved hW.alike, h.2.2.2.2.1.moved hW.alike, h.2.2.2.2.2.1.moved hW.alike, h.2.2.2.2.2.2.moved hW.alike⟩
theorem SX.kept {sa sd : Nat} {A : Nat → Prop} {U : State} {H H1 : Heap} (h : SX sa sd A U H) (hq : ∀ a : Nat, a < H.size → ¬ A a → H1[a]? = H[a]?) : SX sa sd A U H1 := ⟨h.1, h.2.1, h.2.2.1.kept h.2.1 hq, h.2.2.2.1.kept h.2.1 hq, h.2.2.2.2.1.kept hq, h.2.2.2.2.2.1.kept hq, h.2.2.2.2.2.2.kept hq⟩
theorem SX.narrow {sa sd : Nat} {A B : Nat → Prop} {U : State} {H : Heap} (h : SX sa sd A U H) (hAB : ∀ q, B q → A q) : SX sa sd B U H := ⟨h.1, fun z => h.2.1 (hAB _ z), h.2.2.1, h.2.2.2.1, h.2.2.2.2.1.narrow hAB, h.2.2.2.2.2.1.narrow hAB, h.2.2.2.2.2.2.narrow hAB⟩
theorem SX.same {sa sd : Nat} {A : Nat → Prop} {u U : State} {H : Heap} (hv : u.vm = U.vm) (h : SX sa sd A u H) : SX sa sd A U H := by
  have ha : u.vm.Alike U.vm := hv ▸ Vm.Alike.refl u.vm
  refine ⟨?_, h.2.1, h.2.2.1.moved ha, h.2.2.2.1.moved ha, h.2.2.2.2.1.moved ha, h.2.2.2.2.2.1.moved ha, h.2.2.2.2.2.2.moved ha⟩
  obtain ⟨c, k, cf, i, h1, h2, h3, h4, h5⟩ := h.1
  exact ⟨c, k, cf, i, hv ▸ h1, hv ▸ h2, h3, h4, h5⟩
/-- a start of a method of the String alone -/
def PcJ (sa sd : Nat) (av : List Value) : Array Value → State → Prop := va_Pc av (fun U => SX sa sd (fun _ => False) U U.heap)
theorem PcJ.blind {sa sd : Nat} {av : List Value} : FrameBlind (PcJ sa sd av) := fun a U g mk q => ⟨q.1, SX.same (u := U) (U := U.calling g mk a) rfl q.2⟩
theorem PcJ.preS {sa sd : Nat} {s : State} {H : Heap} {As : List Value} (h : SX sa sd (fun _ => False) s H) : PreS s H (PcJ sa sd As) As := ⟨PcJ.blind, fun U hU hW => ⟨rfl, show SX sa sd (fun _ => False) U U.heap by rw [hU]; exact h.warm hW⟩⟩
theorem PcJ.preV {sa sd : Nat} {s : State} {H : Heap} {As : List Value} (h : SX sa sd (fun _ => False) s H) : PreV s H RJ0 sa (PcJ sa sd (.ref sa :: As)) As := ⟨PcJ.blind, by
  obtain ⟨cf, kf, fi, f, cell, h1, h2, h3, h4, h5, h6, h7⟩ := h.2.2.1
  exact ⟨cell, h3, h5, h6⟩, fun U hU hW => ⟨rfl, show SX sa sd (fun _ => False) U U.heap by rw [hU]; exact h.warm hW⟩⟩
/-- a start of a method that reads the constant, and has a world of its own -/
def PcS (sa sd : Nat) (D : va_G) (ca : Nat → ClassId) (av : List Value) (ws : va_W) : Array Value → State → Prop := va_Pc av (fun U => va_P D vwCl ws U.heap ∧ KX D ca U ∧ SX sa sd (adr ws) U U.heap)
theorem PcS.blind {sa sd : Nat} {D : va_G} {ca : Nat → ClassId} {av : List Value} {ws : va_W} : FrameBlind (PcS sa sd D ca av ws) := fun a U g mk q => ⟨q.1, q.2.1, KX.same (u := U) (U := U.calling g mk a) rfl q.2.2.1, SX.same (u := U) (U := U.calling g mk a) rfl q.2.2.2⟩
theorem PcS.preS {sa sd : Nat} {D : va_G} {ca : Nat → ClassId} {wc : va_W} {s : State} {H : Heap} {As : List Value} (hK : KX D ca s) (hX : SX sa sd (adr wc) s H) (hP : va_P D vwCl wc H) : PreS s H (PcS sa sd D ca As wc) As := ⟨PcS.blind, fun U hU hW => ⟨rfl, by rw [hU]; exact hP, hK.warm hW, by rw [hU]; exact hX.warm hW⟩⟩
theorem PcS.preV {sa sd : Nat} {D : va_G} {ca : Nat → ClassId} {ws wc : va_W} {s : State} {H : Heap} {As : List Value} {b q0 ci : Nat} {q : vw_C} {fs : List Value} (hK : KX D ca s) (hX : SX sa sd (adr wc) s H) (hPw : va_P D vwCl ws H) (hc : vwCl[ci]? = some q) (he : ws[q0]? = some (b, .inr (ci, fs))) (hP : va_P D vwCl wc H) : PreV s H q.1 b (PcS sa sd D ca (.ref b :: As) wc) As := ⟨PcS.blind, va_recv hK.1 hPw hc he, fun U hU hW => ⟨rfl, by rw [hU]; exact hP, hK.warm hW, by rw [hU]; exact hX.warm hW⟩⟩
/-- behind writes in one's own world -/
theorem SX.now {sa sd : Nat} {A : Nat → Prop} {s : State} {H : Heap} {locs : List Loc} (h : SX sa sd A s s.heap) (hS : va_S A s.heap H locs) : SX sa sd A s H := h.kept hS.2.1
theorem SX.of {sa sd : Nat} {A : Nat → Prop} {s : State} {H : Heap} {ws wc : va_W} (h : SX sa sd A s H) (hD : va_D A ws) (isC : List Nat) (hC : isC.map (fun i => ws[i]?) = wc.map some) : SX sa sd (adr wc) s H := h.narrow (adr_sub hD isC hC)
section XS
variable {p : Program} {l : Launch} {e : Env} {R : Room} {s : State} {m : MethodId} {args : Array Value} {below : List Frame} {meth : Method} {c : Code} {H : Heap} {locs : List Loc} {cells slots : Nat} {Q : State → Prop}
variable {cc : ByteArray} {pc : Nat} {ls : Array Slot} {rest : List Value} {sa : Nat}
theorem x_ldcs (hexec : p.tables.exec = Jvm.exec) (hb : c.code = cc) (hown : s.vm.findClass RX3 = some m.cls) (hL : LdS sa s) (hdg : decode cc pc = .ok (.ldc 30, 2))
    (kk : W p l e R s m args below meth c H locs cells slots Q (F0 m (pc + 2) ls (.ref sa :: rest))) : W p l e R s m args below meth c H locs cells slots Q (F0 m pc ls rest) := by
  intro T hT X
  obtain ⟨t, a1, b1⟩ := kk T hT X
  refine ⟨t, ?_, b1⟩
  obtain ⟨cl, k, cf, i, h1, hk, hcf, hcp, hr⟩ := hL
  cases hown.symm.trans h1
  obtain ⟨k', hk', he⟩ := X.warmed.alike.2.2 _ _ hk
  have hr' : k'.resolved[30]? = some (some (.string sa)) := by
    rcases X.warmed.entry hk hk' 30 with q | ⟨q, -⟩
    · rw [q]; exact hr
    · rw [hr] at q; cases q
  have hdg' : decode c.code (F0 m pc ls rest).pc = .ok (.ldc 30, 2) := by rw [hb]; exact hdg
  jvm_step X.here [hexec, hdg', ldc.wp_string (e := e) (s := T) (f := F0 m pc ls rest) X.here.top hk' (by rw [he]; exact hcf) hcp hr']
  exact a1
theorem x_getS (hexec : p.tables.exec = Jvm.exec) (hb : c.code = cc) {own n d : String} {index : Nat} {v : Value} (hown : s.vm.findClass own = some m.cls) (hF : FX sa n d v s H) (hlink : (Cond.fieldLink own index "java/lang/String" n d).before args s = true) (hdg : decode cc pc = .ok (.getfield index, 3))
    (kk : W p l e R s m args below meth c H locs cells slots Q (F0 m (pc + 3) ls (v :: rest))) : W p l e R s m args below meth c H locs cells slots Q (F0 m pc ls (.ref sa :: rest)) := by
  obtain ⟨cf, kf, fi, f, cell, h1, h2, h3, h4, h5, h6, h7⟩ := hF
  exact W.getf hexec hb hown hlink h1 h2 h3 h4 h7 rfl rfl hdg kk
end XS
theorem ch6 : ∀ j, j < 6 → (((lt6 j) &&& 255).toUInt32 % 65536).toInt32 = lt6 j := by decide +kernel
theorem ch6' {i : Int32} (hi : vp_in i 6) : (((lt6 i.toNatClampNeg) &&& 255).toUInt32 % 65536).toInt32 = lt6 i.toNatClampNeg := by
  obtain ⟨j, hj, rfl⟩ := vp_in_of hi (by decide)
  rw [nI_clamp (by omega)]; exact ch6 j hj
theorem ch6n : ∀ j, j < 6 → narrow .char (.int (lt6 j)) = .int (lt6 j) := by decide +kernel
theorem ch6n' {i : Int32} (hi : vp_in i 6) : narrow .char (.int (lt6 i.toNatClampNeg)) = .int (lt6 i.toNatClampNeg) := by
  obtain ⟨j, hj, rfl⟩ := vp_in_of hi (by decide)
  rw [nI_clamp (by omega)]; exact ch6n j hj

def rm_J0_coder_7d493 : Room := { frames := 0, cells := 0, slots := 0, locals := 0 }
theorem k_J0_coder_7d493_1 : Cond.fieldLink RJ0 38 "java/lang/String" "COMPACT_STRINGS" "Z" ∈ wsJ0_coder_7d493 := List.mem_of_getElem? (i := 1) (by decide +kernel)
theorem k_J0_coder_7d493_2 : Cond.fieldLink RJ0 15 "java/lang/String" "coder" "B" ∈ wsJ0_coder_7d493 := List.mem_of_getElem? (i := 2) (by decide +kernel)
set_option maxHeartbeats 4000000 in
set_option maxRecDepth 100000 in
theorem c_J0_coder_7d493 (l : Launch) (sa sd : Nat)  : Met l yJ0_coder_7d493 wsJ0_coder_7d493 rm_J0_coder_7d493 (PcJ sa sd [.ref sa]) (rdI (fun r => r = 0)) 0 0 (fun _ => False) := by
  refine Met.ofW (cc := cJ0_coder_7d493) (maxL := 1) (ret := (some .byte)) (by decide) rfl ?_
  intro zp ze zs zm za zb zt zc z1 B hml hv
  obtain ⟨rfl, hX⟩ := hv
  have hx := B.exec
  have hb := B.bytes
  have hr := B.returns
  have hts := atoms_spec (ws := wsJ0_coder_7d493) B.pre
  have hown : zs.vm.findClass RJ0 = some zm.cls := findClass_of_methodNamed B.named
  have hlocks := B.notSynchronized
  have hS : va_S (fun _ => False) zs.heap zs.heap [] := va_S.rf
  have hl := lv_entry ([.ref sa]) (n := 1) (Nat.le_of_ble_eq_true rfl)
  rw [lg_entry_eq]
  generalize (lg_sl ([.ref sa]) ++ List.replicate (1 - (lg_sl ([.ref sa])).length) Slot.unset).toArray = ls at hl ⊢
  replace hl : lv_has ls 1 [(0, .ref sa)] := hl
  show W zp l ze rm_J0_coder_7d493 zs zm ([.ref sa] : List Value).toArray zb zt zc zs.heap [] 0 0 (MQ zb (rdI (fun r => r = 0)) ([.ref sa] : List Value).toArray zs 0 0 (fun _ => False)) (F0 zm 0 ls [])
  refine va_gets hx hb hX.2.2.2.2.2.1 hS hown (hts _ k_J0_coder_7d493_1) (fun _ h9 => h9) dJ0_coder_7d493_0 ?_
  refine lv_if_eq (tgt := 13) hx hb dJ0_coder_7d493_3 (by decide) (fun hc => absurd hc (by decide)) (fun _ => ?_)
  refine lv_aload_n hx hb dJ0_coder_7d493_6 rfl (lv_at hl 0 rfl) ?_
  refine x_getS hx hb hown hX.2.2.2.1 (hts _ k_J0_coder_7d493_2) dJ0_coder_7d493_7 ?_
  refine lv_goto (tgt := 14) hx hb dJ0_coder_7d493_10 (by decide) ?_
  exact W.zret (v := 0) hx hb hr (by decide) (fun zt ht hW => ⟨0, rfl, rfl, ht⟩) (fun q hq => absurd hq List.not_mem_nil) dJ0_coder_7d493_14
def rm_J0_length_8abf5 : Room := { frames := 1, cells := 0, slots := 0, locals := 20 }
theorem k_J0_length_8abf5_1 : Cond.fieldLink RJ0 9 "java/lang/String" "value" "[B" ∈ wsJ0_length_8abf5 := List.mem_of_getElem? (i := 1) (by decide +kernel)
set_option maxHeartbeats 4000000 in
set_option maxRecDepth 100000 in
theorem c_J0_length_8abf5 (l : Launch) (sa sd : Nat)  : Met l yJ0_length_8abf5 wsJ0_length_8abf5 rm_J0_length_8abf5 (PcJ sa sd [.ref sa]) (rdI (fun r => r = 6)) 0 0 (fun _ => False) := by
  refine Met.ofW (cc := cJ0_length_8abf5) (maxL := 1) (ret := (some .int)) (by decide) rfl ?_
  intro zp ze zs zm za zb zt zc z1 B hml hv
  obtain ⟨rfl, hX⟩ := hv
  have hx := B.exec
  have hb := B.bytes
  have hr := B.returns
  have hts := atoms_spec (ws := wsJ0_length_8abf5) B.pre
  have hown : zs.vm.findClass RJ0 = some zm.cls := findClass_of_methodNamed B.named
  have hlocks := B.notSynchronized
  have hS : va_S (fun _ => False) zs.heap zs.heap [] := va_S.rf
  have hl := lv_entry ([.ref sa]) (n := 1) (Nat.le_of_ble_eq_true rfl)
  rw [lg_entry_eq]
  generalize (lg_sl ([.ref sa]) ++ List.replicate (1 - (lg_sl ([.ref sa])).length) Slot.unset).toArray = ls at hl ⊢
  replace hl : lv_has ls 1 [(0, .ref sa)] := hl
  show W zp l ze rm_J0_length_8abf5 zs zm ([.ref sa] : List Value).toArray zb zt zc zs.heap [] 0 0 (MQ zb (rdI (fun r => r = 6)) ([.ref sa] : List Value).toArray zs 0 0 (fun _ => False)) (F0 zm 0 ls [])
  refine lv_aload_n hx hb dJ0_length_8abf5_0 rfl (lv_at hl 0 rfl) ?_
  refine x_getS hx hb hown hX.2.2.1 (hts _ k_J0_length_8abf5_1) dJ0_length_8abf5_1 ?_
  refine va_tlen (v := 6) hx hb hX.2.2.2.2.1 hS rfl dJ0_length_8abf5_4 ?_
  refine lv_aload_n hx hb dJ0_length_8abf5_5 rfl (lv_at hl 0 rfl) ?_
  refine rd_calli (va_runV (As := []) (rest := [.int 6]) ⟨hx, hb, hml, hown, hts⟩ (c_J0_coder_7d493 l sa sd) (cwV 0 hts gJ0_length_8abf5_J0_coder_7d493 rfl rfl rfl (by decide +kernel) ⟨Nat.le_of_ble_eq_true rfl, Nat.le_of_ble_eq_true rfl⟩) (PcJ.preV hX) rfl rfl hl.1 rfl (lv_room (Nat.le_of_ble_eq_true rfl)) dJ0_length_8abf5_6 ⟨Nat.le_of_ble_eq_true rfl, Nat.le_of_ble_eq_true rfl⟩) (fun r hr0 => ?_)
  subst hr0
  refine lv_ishr hx hb dJ0_length_8abf5_9 ?_
  exact W.iret (v := (6 : Int32) >>> ((0 : Int32) &&& 31)) hx hb hr (fun zt ht hW => ⟨_, rfl, by decide, ht⟩) (fun q hq => absurd hq List.not_mem_nil) dJ0_length_8abf5_10
def rm_J0_isLatin1_aae02 : Room := { frames := 0, cells := 0, slots := 0, locals := 0 }
theorem k_J0_isLatin1_aae02_1 : Cond.fieldLink RJ0 38 "java/lang/String" "COMPACT_STRINGS" "Z" ∈ wsJ0_isLatin1_aae02 := List.mem_of_getElem? (i := 1) (by decide +kernel)
theorem k_J0_isLatin1_aae02_2 : Cond.fieldLink RJ0 15 "java/lang/String" "coder" "B" ∈ wsJ0_isLatin1_aae02 := List.mem_of_getElem? (i := 2) (by decide +kernel)
set_option maxHeartbeats 4000000 in
set_option maxRecDepth 100000 in
theorem c_J0_isLatin1_aae02 (l : Launch) (sa sd : Nat)  : Met l yJ0_isLatin1_aae02 wsJ0_isLatin1_aae02 rm_J0_isLatin1_aae02 (PcJ sa sd [.ref sa]) (rdZ (fun r => r = 1)) 0 0 (fun _ => False) := by
  refine Met.ofW (cc := cJ0_isLatin1_aae02) (maxL := 1) (ret := (some .boolean)) (by decide) rfl ?_
  intro zp ze zs zm za zb zt zc z1 B hml hv
  obtain ⟨rfl, hX⟩ := hv
  have hx := B.exec
  have hb := B.bytes
  have hr := B.returns
  have hts := atoms_spec (ws := wsJ0_isLatin1_aae02) B.pre
  have hown : zs.vm.findClass RJ0 = some zm.cls := findClass_of_methodNamed B.named
  have hlocks := B.notSynchronized
  have hS : va_S (fun _ => False) zs.heap zs.heap [] := va_S.rf
  have hl := lv_entry ([.ref sa]) (n := 1) (Nat.le_of_ble_eq_true rfl)
  rw [lg_entry_eq]
  generalize (lg_sl ([.ref sa]) ++ List.replicate (1 - (lg_sl ([.ref sa])).length) Slot.unset).toArray = ls at hl ⊢
  replace hl : lv_has ls 1 [(0, .ref sa)] := hl
  show W zp l ze rm_J0_isLatin1_aae02 zs zm ([.ref sa] : List Value).toArray zb zt zc zs.heap [] 0 0 (MQ zb (rdZ (fun r => r = 1)) ([.ref sa] : List Value).toArray zs 0 0 (fun _ => False)) (F0 zm 0 ls [])
  refine va_gets hx hb hX.2.2.2.2.2.1 hS hown (hts _ k_J0_isLatin1_aae02_1) (fun _ h9 => h9) dJ0_isLatin1_aae02_0 ?_
  refine lv_if_eq (tgt := 17) hx hb dJ0_isLatin1_aae02_3 (by decide) (fun hc => absurd hc (by decide)) (fun _ => ?_)
  refine lv_aload_n hx hb dJ0_isLatin1_aae02_6 rfl (lv_at hl 0 rfl) ?_
  refine x_getS hx hb hown hX.2.2.2.1 (hts _ k_J0_isLatin1_aae02_2) dJ0_isLatin1_aae02_7 ?_
  refine lv_if_ne (tgt := 17) hx hb dJ0_isLatin1_aae02_10 (by decide) (fun hc => absurd rfl hc) (fun _ => ?_)
  refine lv_iconst (v := (1)) hx hb dJ0_isLatin1_aae02_13 (by decide) ?_
  refine lv_goto (tgt := 18) hx hb dJ0_isLatin1_aae02_14 (by decide) ?_
  exact W.zret (v := 1) hx hb hr nar1 (fun zt ht hW => ⟨1, rfl, ⟨rfl, nar1⟩, ht⟩) (fun q hq => absurd hq List.not_mem_nil) dJ0_isLatin1_aae02_18
def rm_J3_checkIndex_8e157 : Room := { frames := 0, cells := 0, slots := 0, locals := 0 }
set_option maxHeartbeats 4000000 in
set_option maxRecDepth 100000 in
theorem c_J3_checkIndex_8e157N (l : Launch) (sa sd : Nat) (i : Int32) (hi : vp_in i 6)  : Met l yJ3_checkIndex_8e157 wsJ3_checkIndex_8e157 rm_J3_checkIndex_8e157 (PcJ sa sd [.int i, .int 6, .null]) (rdI (fun r => r = i)) 0 0 (fun _ => False) := by
  refine Met.ofW (cc := cJ3_checkIndex_8e157) (maxL := 3) (ret := (some .int)) (by decide) rfl ?_
  intro zp ze zs zm za zb zt zc z1 B hml hv
  obtain ⟨rfl, hX⟩ := hv
  have hx := B.exec
  have hb := B.bytes
  have hr := B.returns
  have hts := atoms_spec (ws := wsJ3_checkIndex_8e157) B.pre
  have hown : zs.vm.findClass RJ3 = some zm.cls := findClass_of_methodNamed B.named
  have hlocks := B.notSynchronized
  have hS : va_S (fun _ => False) zs.heap zs.heap [] := va_S.rf
  have hl := lv_entry ([.int i, .int 6, .null]) (n := 3) (Nat.le_of_ble_eq_true rfl)
  rw [lg_entry_eq]
  generalize (lg_sl ([.int i, .int 6, .null]) ++ List.replicate (3 - (lg_sl ([.int i, .int 6, .null])).length) Slot.unset).toArray = ls at hl ⊢
  replace hl : lv_has ls 3 [(0, .int i), (1, .int 6), (2, .null)] := hl
  show W zp l ze rm_J3_checkIndex_8e157 zs zm ([.int i, .int 6, .null] : List Value).toArray zb zt zc zs.heap [] 0 0 (MQ zb (rdI (fun r => r = i)) ([.int i, .int 6, .null] : List Value).toArray zs 0 0 (fun _ => False)) (F0 zm 0 ls [])
  have h1 : ¬ i < 0 := fun z => hi (Or.inl z)
  have h2 : i < 6 := by obtain ⟨j, hj, rfl⟩ := vp_in_of hi (by decide); exact nI_lt (b := 6) hj (by decide)
  refine lv_iload_n hx hb dJ3_checkIndex_8e157_0 rfl (lv_at hl 0 rfl) ?_
  refine lv_if_lt (tgt := 9) hx hb dJ3_checkIndex_8e157_1 (by decide) (fun hc => absurd hc h1) (fun _ => ?_)
  refine lv_iload_n hx hb dJ3_checkIndex_8e157_4 rfl (lv_at hl 0 rfl) ?_
  refine lv_iload_n hx hb dJ3_checkIndex_8e157_5 rfl (lv_at hl 1 rfl) ?_
  refine lv_icmp_lt (tgt := 16) hx hb dJ3_checkIndex_8e157_6 (by decide) (fun _ => ?_) (fun hc => absurd h2 hc)
  refine lv_iload_n hx hb dJ3_checkIndex_8e157_16 rfl (lv_at hl 0 rfl) ?_
  exact W.iret (v := i) hx hb hr (fun zt ht hW => ⟨i, rfl, rfl, ht⟩) (fun q hq => absurd hq List.not_mem_nil) dJ3_checkIndex_8e157_17
set_option maxHeartbeats 4000000 in
set_option maxRecDepth 100000 in
theorem c_J3_checkIndex_8e157R (l : Launch) (sa sd : Nat) (i : Int32) (hi : vp_in i 6) (q : Nat)  : Met l yJ3_checkIndex_8e157 wsJ3_checkIndex_8e157 rm_J3_checkIndex_8e157 (PcJ sa sd [.int i, .int 6, .ref q]) (rdI (fun r => r = i)) 0 0 (fun _ => False) := by
  refine Met.ofW (cc := cJ3_checkIndex_8e157) (maxL := 3) (ret := (some .int)) (by decide) rfl ?_
  intro zp ze zs zm za zb zt zc z1 B hml hv
  obtain ⟨rfl, hX⟩ := hv
  have hx := B.exec
  have hb := B.bytes
  have hr := B.returns
  have hts := atoms_spec (ws := wsJ3_checkIndex_8e157) B.pre
  have hown : zs.vm.findClass RJ3 = some zm.cls := findClass_of_methodNamed B.named
  have hlocks := B.notSynchronized
  have hS : va_S (fun _ => False) zs.heap zs.heap [] := va_S.rf
  have hl := lv_entry ([.int i, .int 6, .ref q]) (n := 3) (Nat.le_of_ble_eq_true rfl)
  rw [lg_entry_eq]
  generalize (lg_sl ([.int i, .int 6, .ref q]) ++ List.replicate (3 - (lg_sl ([.int i, .int 6, .ref q])).length) Slot.unset).toArray = ls at hl ⊢
  replace hl : lv_has ls 3 [(0, .int i), (1, .int 6), (2, .ref q)] := hl
  show W zp l ze rm_J3_checkIndex_8e157 zs zm ([.int i, .int 6, .ref q] : List Value).toArray zb zt zc zs.heap [] 0 0 (MQ zb (rdI (fun r => r = i)) ([.int i, .int 6, .ref q] : List Value).toArray zs 0 0 (fun _ => False)) (F0 zm 0 ls [])
  have h1 : ¬ i < 0 := fun z => hi (Or.inl z)
  have h2 : i < 6 := by obtain ⟨j, hj, rfl⟩ := vp_in_of hi (by decide); exact nI_lt (b := 6) hj (by decide)
  refine lv_iload_n hx hb dJ3_checkIndex_8e157_0 rfl (lv_at hl 0 rfl) ?_
  refine lv_if_lt (tgt := 9) hx hb dJ3_checkIndex_8e157_1 (by decide) (fun hc => absurd hc h1) (fun _ => ?_)
  refine lv_iload_n hx hb dJ3_checkIndex_8e157_4 rfl (lv_at hl 0 rfl) ?_
  refine lv_iload_n hx hb dJ3_checkIndex_8e157_5 rfl (lv_at hl 1 rfl) ?_
  refine lv_icmp_lt (tgt := 16) hx hb dJ3_checkIndex_8e157_6 (by decide) (fun _ => ?_) (fun hc => absurd h2 hc)
  refine lv_iload_n hx hb dJ3_checkIndex_8e157_16 rfl (lv_at hl 0 rfl) ?_
  exact W.iret (v := i) hx hb hr (fun zt ht hW => ⟨i, rfl, rfl, ht⟩) (fun q hq => absurd hq List.not_mem_nil) dJ3_checkIndex_8e157_17
def rm_J0_checkIndex_df160 : Room := { frames := 1, cells := 0, slots := 0, locals := 22 }
theorem k_J0_checkIndex_df160_1 : Cond.fieldLink RJ0 1053 "jdk/internal/util/Preconditions" "SIOOBE_FORMATTER" "Ljava/util/function/BiFunction;" ∈ wsJ0_checkIndex_df160 := List.mem_of_getElem? (i := 1) (by decide +kernel)
set_option maxHeartbeats 4000000 in
set_option maxRecDepth 100000 in
theorem c_J0_checkIndex_df160 (l : Launch) (sa sd : Nat) (i : Int32) (hi : vp_in i 6) : Met l yJ0_checkIndex_df160 wsJ0_checkIndex_df160 rm_J0_checkIndex_df160 (PcJ sa sd [.int i, .int 6]) (rdV True) 0 0 (fun _ => False) := by
  refine Met.ofW (cc := cJ0_checkIndex_df160) (maxL := 2) (ret := none) (by decide) rfl ?_
  intro zp ze zs zm za zb zt zc z1 B hml hv
  obtain ⟨rfl, hX⟩ := hv
  have hx := B.exec
  have hb := B.bytes
  have hr := B.returns
  have hts := atoms_spec (ws := wsJ0_checkIndex_df160) B.pre
  have hown : zs.vm.findClass RJ0 = some zm.cls := findClass_of_methodNamed B.named
  have hlocks := B.notSynchronized
  have hS : va_S (fun _ => False) zs.heap zs.heap [] := va_S.rf
  have hl := lv_entry ([.int i, .int 6]) (n := 2) (Nat.le_of_ble_eq_true rfl)
  rw [lg_entry_eq]
  generalize (lg_sl ([.int i, .int 6]) ++ List.replicate (2 - (lg_sl ([.int i, .int 6])).length) Slot.unset).toArray = ls at hl ⊢
  replace hl : lv_has ls 2 [(0, .int i), (1, .int 6)] := hl
  show W zp l ze rm_J0_checkIndex_df160 zs zm ([.int i, .int 6] : List Value).toArray zb zt zc zs.heap [] 0 0 (MQ zb (rdV True) ([.int i, .int 6] : List Value).toArray zs 0 0 (fun _ => False)) (F0 zm 0 ls [])
  refine lv_iload_n hx hb dJ0_checkIndex_df160_0 rfl (lv_at hl 0 rfl) ?_
  refine lv_iload_n hx hb dJ0_checkIndex_df160_1 rfl (lv_at hl 1 rfl) ?_
  rcases hX.2.2.2.2.2.2 with hz | ⟨q, hz⟩
  · refine va_gets (v := .null) hx hb hz hS hown (hts _ k_J0_checkIndex_df160_1) (fun _ h9 => h9) dJ0_checkIndex_df160_2 ?_
    refine rd_calli (va_runS (As := [.int i, .int 6, .null]) (rest := []) ⟨hx, hb, hml, hown, hts⟩ (c_J3_checkIndex_8e157N l sa sd i hi) (va_cwS 3 hts gJ0_checkIndex_df160_J3_checkIndex_8e157 rfl rfl rfl (by decide +kernel) ⟨Nat.le_of_ble_eq_true rfl, Nat.le_of_ble_eq_true rfl⟩) (PcJ.preS hX) rfl rfl hl.1 rfl (lv_room (Nat.le_of_ble_eq_true rfl)) dJ0_checkIndex_df160_5 ⟨Nat.le_of_ble_eq_true rfl, Nat.le_of_ble_eq_true rfl⟩) (fun r hr0 => ?_)
    refine lv_pop hx hb dJ0_checkIndex_df160_8 rfl ?_
    exact W.vret hx hb hr (fun zt ht hW => ⟨rfl, trivial, ht⟩) (fun q hq => absurd hq List.not_mem_nil) dJ0_checkIndex_df160_9
  · refine va_gets (v := .ref q) hx hb hz hS hown (hts _ k_J0_checkIndex_df160_1) (fun _ h9 => h9) dJ0_checkIndex_df160_2 ?_
    refine rd_calli (va_runS (As := [.int i, .int 6, .ref q]) (rest := []) ⟨hx, hb, hml, hown, hts⟩ (c_J3_checkIndex_8e157R l sa sd i hi q) (va_cwS 3 hts gJ0_checkIndex_df160_J3_checkIndex_8e157 rfl rfl rfl (by decide +kernel) ⟨Nat.le_of_ble_eq_true rfl, Nat.le_of_ble_eq_true rfl⟩) (PcJ.preS hX) rfl rfl hl.1 rfl (lv_room (Nat.le_of_ble_eq_true rfl)) dJ0_checkIndex_df160_5 ⟨Nat.le_of_ble_eq_true rfl, Nat.le_of_ble_eq_true rfl⟩) (fun r hr0 => ?_)
    refine lv_pop hx hb dJ0_checkIndex_df160_8 rfl ?_
    exact W.vret hx hb hr (fun zt ht hW => ⟨rfl, trivial, ht⟩) (fun q hq => absurd hq List.not_mem_nil) dJ0_checkIndex_df160_9
def rm_J1_charAt_3b067 : Room := { frames := 2, cells := 0, slots := 0, locals := 43 }
set_option maxHeartbeats 4000000 in
set_option maxRecDepth 100000 in
theorem c_J1_charAt_3b067 (l : Launch) (sa sd : Nat) (i : Int32) (hi : vp_in i 6) : Met l yJ1_charAt_3b067 wsJ1_charAt_3b067 rm_J1_charAt_3b067 (PcJ sa sd [.ref sd, .int i]) (rdI (fun r => r = lt6 i.toNatClampNeg)) 0 0 (fun _ => False) := by
  refine Met.ofW (cc := cJ1_charAt_3b067) (maxL := 2) (ret := (some .char)) (by decide) rfl ?_
  intro zp ze zs zm za zb zt zc z1 B hml hv
  obtain ⟨rfl, hX⟩ := hv
  have hx := B.exec
  have hb := B.bytes
  have hr := B.returns
  have hts := atoms_spec (ws := wsJ1_charAt_3b067) B.pre
  have hown : zs.vm.findClass RJ1 = some zm.cls := findClass_of_methodNamed B.named
  have hlocks := B.notSynchronized
  have hS : va_S (fun _ => False) zs.heap zs.heap [] := va_S.rf
  have hl := lv_entry ([.ref sd, .int i]) (n := 2) (Nat.le_of_ble_eq_true rfl)
  rw [lg_entry_eq]
  generalize (lg_sl ([.ref sd, .int i]) ++ List.replicate (2 - (lg_sl ([.ref sd, .int i])).length) Slot.unset).toArray = ls at hl ⊢
  replace hl : lv_has ls 2 [(0, .ref sd), (1, .int i)] := hl
  show W zp l ze rm_J1_charAt_3b067 zs zm ([.ref sd, .int i] : List Value).toArray zb zt zc zs.heap [] 0 0 (MQ zb (rdI (fun r => r = lt6 i.toNatClampNeg)) ([.ref sd, .int i] : List Value).toArray zs 0 0 (fun _ => False)) (F0 zm 0 ls [])
  refine lv_iload_n hx hb dJ1_charAt_3b067_0 rfl (lv_at hl 1 rfl) ?_
  refine lv_aload_n hx hb dJ1_charAt_3b067_1 rfl (lv_at hl 0 rfl) ?_
  refine va_tlen (v := 6) hx hb hX.2.2.2.2.1 hS rfl dJ1_charAt_3b067_2 ?_
  refine rd_callv (va_runS (As := [.int i, .int 6]) (rest := []) ⟨hx, hb, hml, hown, hts⟩ (c_J0_checkIndex_df160 l sa sd i hi) (va_cwS 2 hts gJ1_charAt_3b067_J0_checkIndex_df160 rfl rfl rfl (by decide +kernel) ⟨Nat.le_of_ble_eq_true rfl, Nat.le_of_ble_eq_true rfl⟩) (PcJ.preS hX) rfl rfl hl.1 rfl (lv_room (Nat.le_of_ble_eq_true rfl)) dJ1_charAt_3b067_3 ⟨Nat.le_of_ble_eq_true rfl, Nat.le_of_ble_eq_true rfl⟩) (fun _ => ?_)
  refine lv_aload_n hx hb dJ1_charAt_3b067_6 rfl (lv_at hl 0 rfl) ?_
  refine lv_iload_n hx hb dJ1_charAt_3b067_7 rfl (lv_at hl 1 rfl) ?_
  refine va_tb (v := .int (lt6 i.toNatClampNeg)) hx hb hX.2.2.2.2.1 hS hi rfl dJ1_charAt_3b067_8 ?_
  refine lv_sipush (v := (255)) hx hb dJ1_charAt_3b067_9 (by decide) ?_
  refine lv_iand hx hb dJ1_charAt_3b067_12 ?_
  refine lv_i2c hx hb dJ1_charAt_3b067_13 rfl ?_
  rw [ch6' hi]
  exact W.zret (v := lt6 i.toNatClampNeg) hx hb hr (ch6n' hi) (fun zt ht hW => ⟨_, rfl, rfl, ht⟩) (fun q hq => absurd hq List.not_mem_nil) dJ1_charAt_3b067_14
def rm_J0_charAt_5068e : Room := { frames := 3, cells := 0, slots := 0, locals := 64 }
theorem k_J0_charAt_5068e_1 : Cond.fieldLink RJ0 9 "java/lang/String" "value" "[B" ∈ wsJ0_charAt_5068e := List.mem_of_getElem? (i := 1) (by decide +kernel)
set_option maxHeartbeats 4000000 in
set_option maxRecDepth 100000 in
theorem c_J0_charAt_5068e (l : Launch) (sa sd : Nat) (i : Int32) (hi : vp_in i 6) : Met l yJ0_charAt_5068e wsJ0_charAt_5068e rm_J0_charAt_5068e (PcJ sa sd [.ref sa, .int i]) (rdI (fun r => r = lt6 i.toNatClampNeg)) 0 0 (fun _ => False) := by
  refine Met.ofW (cc := cJ0_charAt_5068e) (maxL := 2) (ret := (some .char)) (by decide) rfl ?_
  intro zp ze zs zm za zb zt zc z1 B hml hv
  obtain ⟨rfl, hX⟩ := hv
  have hx := B.exec
  have hb := B.bytes
  have hr := B.returns
  have hts := atoms_spec (ws := wsJ0_charAt_5068e) B.pre
  have hown : zs.vm.findClass RJ0 = some zm.cls := findClass_of_methodNamed B.named
  have hlocks := B.notSynchronized
  have hS : va_S (fun _ => False) zs.heap zs.heap [] := va_S.rf
  have hl := lv_entry ([.ref sa, .int i]) (n := 2) (Nat.le_of_ble_eq_true rfl)
  rw [lg_entry_eq]
  generalize (lg_sl ([.ref sa, .int i]) ++ List.replicate (2 - (lg_sl ([.ref sa, .int i])).length) Slot.unset).toArray = ls at hl ⊢
  replace hl : lv_has ls 2 [(0, .ref sa), (1, .int i)] := hl
  show W zp l ze rm_J0_charAt_5068e zs zm ([.ref sa, .int i] : List Value).toArray zb zt zc zs.heap [] 0 0 (MQ zb (rdI (fun r => r = lt6 i.toNatClampNeg)) ([.ref sa, .int i] : List Value).toArray zs 0 0 (fun _ => False)) (F0 zm 0 ls [])
  refine lv_aload_n hx hb dJ0_charAt_5068e_0 rfl (lv_at hl 0 rfl) ?_
  refine rd_callz (va_runV (As := []) (rest := []) ⟨hx, hb, hml, hown, hts⟩ (c_J0_isLatin1_aae02 l sa sd) (cwV 0 hts gJ0_charAt_5068e_J0_isLatin1_aae02 rfl rfl rfl (by decide +kernel) ⟨Nat.le_of_ble_eq_true rfl, Nat.le_of_ble_eq_true rfl⟩) (PcJ.preV hX) rfl rfl hl.1 rfl (lv_room (Nat.le_of_ble_eq_true rfl)) dJ0_charAt_5068e_1 ⟨Nat.le_of_ble_eq_true rfl, Nat.le_of_ble_eq_true rfl⟩) (fun r hr0 _ => ?_)
  subst hr0
  refine lv_if_eq (tgt := 16) hx hb dJ0_charAt_5068e_4 (by decide) (fun hc => absurd hc (by decide)) (fun _ => ?_)
  refine lv_aload_n hx hb dJ0_charAt_5068e_7 rfl (lv_at hl 0 rfl) ?_
  refine x_getS hx hb hown hX.2.2.1 (hts _ k_J0_charAt_5068e_1) dJ0_charAt_5068e_8 ?_
  refine lv_iload_n hx hb dJ0_charAt_5068e_11 rfl (lv_at hl 1 rfl) ?_
  refine rd_calli (va_runS (As := [.ref sd, .int i]) (rest := []) ⟨hx, hb, hml, hown, hts⟩ (c_J1_charAt_3b067 l sa sd i hi) (va_cwS 2 hts gJ0_charAt_5068e_J1_charAt_3b067 rfl rfl rfl (by decide +kernel) ⟨Nat.le_of_ble_eq_true rfl, Nat.le_of_ble_eq_true rfl⟩) (PcJ.preS hX) rfl rfl hl.1 rfl (lv_room (Nat.le_of_ble_eq_true rfl)) dJ0_charAt_5068e_12 ⟨Nat.le_of_ble_eq_true rfl, Nat.le_of_ble_eq_true rfl⟩) (fun r hr0 => ?_)
  subst hr0
  exact W.zret (v := lt6 i.toNatClampNeg) hx hb hr (ch6n' hi) (fun zt ht hW => ⟨_, rfl, rfl, ht⟩) (fun q hq => absurd hq List.not_mem_nil) dJ0_charAt_5068e_15
