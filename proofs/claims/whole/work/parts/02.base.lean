/-! the array classes, the links among nest mates -/
abbrev tysX (ca : Nat → ClassId) : List (ClassId × FieldType) := [(ca 0, .int), (ca 1, .boolean), (ca 2, .long), (ca 3, .object "IronedQuarrels$Heap")]
def nestL : List (String × Nat × MethodName × String) := [(RX7, 23, yX1_init, "IronedQuarrels"), (RX7, 37, yX2_init, "IronedQuarrels"), (RX7, 44, yX0_init, "IronedQuarrels"), (RX7, 51, yX4_init, "IronedQuarrels"), (RX7, 58, yX6_init, "IronedQuarrels"), (RX1, 53, yX7_bit, "IronedQuarrels"), (RX1, 57, yX7_hasBit, "IronedQuarrels"), (RX0, 31, yX7_bit, "IronedQuarrels"), (RX1, 111, yX7_numberAt, "IronedQuarrels"), (RX2, 54, yX7_hasBit, "IronedQuarrels"), (RX2, 65, yX7_bit, "IronedQuarrels"), (RX0, 41, yX7_hasBit, "IronedQuarrels")]
def NX (U : State) : Prop := ∀ q ∈ nestL, va_Nw (.methodLinkNest q.1 q.2.1 q.2.2.1 q.2.2.2) U
theorem NX.warm {s U : State} (hW : s.WarmedH U.vm) (h : NX s) : NX U := fun q hq => va_Nw.warmM hW (h q hq)
theorem NX.same {u U : State} (hv : u.vm = U.vm) (h : NX u) : NX U := fun q hq => va_Nw.same rfl hv (h q hq)
def KX (D : va_G) (ca : Nat → ClassId) (U : State) : Prop := va_K D vwCl (tysX ca) U ∧ NX U
theorem KX.warm {D : va_G} {ca : Nat → ClassId} {s U : State} (hW : s.WarmedH U.vm) (h : KX D ca s) : KX D ca U := ⟨va_K.moved hW.alike h.1, h.2.warm hW⟩
theorem KX.same {D : va_G} {ca : Nat → ClassId} {u U : State} (hv : u.vm = U.vm) (h : KX D ca u) : KX D ca U := ⟨va_K.moved (hv ▸ Vm.Alike.refl u.vm) h.1, h.2.same hv⟩
/-- a method's start: its arguments, its world -/
def PcX (D : va_G) (ca : Nat → ClassId) (av : List Value) (ws : va_W) : Array Value → State → Prop := va_Pc av (fun U => va_P D vwCl ws U.heap ∧ KX D ca U)
theorem PcX.blind {D : va_G} {ca : Nat → ClassId} {av : List Value} {ws : va_W} : FrameBlind (PcX D ca av ws) := fun a U g mk q => ⟨q.1, q.2.1, KX.same (u := U) (U := U.calling g mk a) rfl q.2.2⟩
theorem PcX.preS {D : va_G} {ca : Nat → ClassId} {wc : va_W} {s : State} {H : Heap} {As : List Value} (hK : KX D ca s) (hP : va_P D vwCl wc H) : PreS s H (PcX D ca As wc) As := ⟨PcX.blind, fun U hU hW => ⟨rfl, by rw [hU]; exact hP, hK.warm hW⟩⟩
theorem PcX.preV {D : va_G} {ca : Nat → ClassId} {ws wc : va_W} {s : State} {H : Heap} {As : List Value} {b q0 ci : Nat} {q : vw_C} {fs : List Value} (hK : KX D ca s) (hPw : va_P D vwCl ws H) (hc : vwCl[ci]? = some q) (he : ws[q0]? = some (b, .inr (ci, fs))) (hP : va_P D vwCl wc H) : PreV s H q.1 b (PcX D ca (.ref b :: As) wc) As := ⟨PcX.blind, va_recv hK.1 hPw hc he, fun U hU hW => ⟨rfl, by rw [hU]; exact hP, hK.warm hW⟩⟩
/-! ends: a method that only reads; a method that writes in its own world alone -/
def rdI (post : Int32 → Prop) : Array Value → State → Outcome → State → Prop := fun _ st o t => ∃ r : Int32, o = .returned (some (.int r)) ∧ post r ∧ t.heap = st.heap
def rdZ (post : Int32 → Prop) : Array Value → State → Outcome → State → Prop := fun _ st o t => ∃ r : Int32, o = .returned (some (.int r)) ∧ (post r ∧ narrow .boolean (.int r) = .int r) ∧ t.heap = st.heap
def rdL (post : Int64 → Prop) : Array Value → State → Outcome → State → Prop := fun _ st o t => ∃ r : Int64, o = .returned (some (.long r)) ∧ post r ∧ t.heap = st.heap
def rdV (post : Prop) : Array Value → State → Outcome → State → Prop := fun _ st o t => o = .returned none ∧ post ∧ t.heap = st.heap
def adr (w : va_W) : Nat → Prop := fun q => q ∈ w.map Prod.fst
def wrI {S : Type} (D : va_G) (w0 : va_W) (wd : S → va_W) (post : Int32 → S → Prop) : Array Value → State → Outcome → State → Prop := fun _ st o t => (∃ (r : Int32) (u : S), o = .returned (some (.int r)) ∧ post r u ∧ va_P D vwCl (wd u) t.heap) ∧ va_F (adr w0) st t
def wrZ {S : Type} (D : va_G) (w0 : va_W) (wd : S → va_W) (post : Int32 → S → Prop) : Array Value → State → Outcome → State → Prop := fun _ st o t => (∃ (r : Int32) (u : S), o = .returned (some (.int r)) ∧ (post r u ∧ narrow .boolean (.int r) = .int r) ∧ va_P D vwCl (wd u) t.heap) ∧ va_F (adr w0) st t
def wrL {S : Type} (D : va_G) (w0 : va_W) (wd : S → va_W) (post : Int64 → S → Prop) : Array Value → State → Outcome → State → Prop := fun _ st o t => (∃ (r : Int64) (u : S), o = .returned (some (.long r)) ∧ post r u ∧ va_P D vwCl (wd u) t.heap) ∧ va_F (adr w0) st t
def wrV {S : Type} (D : va_G) (w0 : va_W) (wd : S → va_W) (post : S → Prop) : Array Value → State → Outcome → State → Prop := fun _ st o t => (∃ u : S, o = .returned none ∧ post u ∧ va_P D vwCl (wd u) t.heap) ∧ va_F (adr w0) st t
theorem va_D.adr {A : Nat → Prop} {w : va_W} (h : va_D A w) : va_D (adr w) w := ⟨h.1, fun _ q hk => List.mem_map.mpr ⟨q, List.mem_of_getElem? hk, rfl⟩⟩
theorem va_D.same {A : Nat → Prop} {w w' : va_W} (h : va_D A w) (he : w'.map Prod.fst = w.map Prod.fst) : va_D A w' := by
  have key : ∀ (k : Nat) (q : Nat × va_E), w'[k]? = some q → ∃ q0, w[k]? = some q0 ∧ q0.1 = q.1 := by
    intro k q hk
    have h1 : (w'.map Prod.fst)[k]? = some q.1 := by rw [List.getElem?_map, hk]; rfl
    rw [he, List.getElem?_map] at h1
    cases hw : w[k]? with
    | none => rw [hw] at h1; cases h1
    | some q0 => rw [hw] at h1; exact ⟨q0, rfl, Option.some.inj h1⟩
  refine ⟨fun i j x y hi hj hxy => ?_, fun k q hk => ?_⟩
  · obtain ⟨x0, h1, h2⟩ := key i x hi
    obtain ⟨y0, h3, h4⟩ := key j y hj
    exact h.1 i j x0 y0 h1 h3 (h2.trans (hxy.trans h4.symm))
  · obtain ⟨q0, h1, h2⟩ := key k q hk
    rw [← h2]
    exact h.2 k q0 h1
theorem adr_in {ws wc : va_W} (isC : List Nat) (hC : isC.map (fun i => ws[i]?) = wc.map some) {q : Nat} (h : adr wc q) : ∃ (i : Nat) (e : Nat × va_E), i ∈ isC ∧ ws[i]? = some e ∧ e.1 = q := by
  obtain ⟨e, he, hq⟩ := List.mem_map.mp h
  obtain ⟨k, hk⟩ := List.getElem?_of_mem he
  have h1 : (isC.map (fun i => ws[i]?))[k]? = some (some e) := by rw [hC, List.getElem?_map, hk]; rfl
  rw [List.getElem?_map] at h1
  cases hi : isC[k]? with
  | none => rw [hi] at h1; cases h1
  | some i => rw [hi] at h1; exact ⟨i, e, List.mem_of_getElem? hi, Option.some.inj h1, hq⟩
theorem adr_sub {A : Nat → Prop} {ws wc : va_W} (hD : va_D A ws) (isC : List Nat) (hC : isC.map (fun i => ws[i]?) = wc.map some) : ∀ q, adr wc q → A q := by
  intro q h
  obtain ⟨i, e, -, h2, h3⟩ := adr_in isC hC h
  rw [← h3]
  exact hD.2 i e h2
theorem va_P.subM {D : va_G} {ws wc : va_W} {H : Heap} (hP : va_P D vwCl ws H) (isC : List Nat) (hC : isC.map (fun i => ws[i]?) = wc.map some) : va_P D vwCl wc H := by
  intro k q hk
  have h1 : (isC.map (fun i => ws[i]?))[k]? = some (some q) := by rw [hC, List.getElem?_map, hk]; rfl
  rw [List.getElem?_map] at h1
  cases hi : isC[k]? with
  | none => rw [hi] at h1; cases h1
  | some i => rw [hi] at h1; exact hP i q (Option.some.inj h1)
theorem va_D.subM {A : Nat → Prop} {ws wc : va_W} (hD : va_D A ws) (isC : List Nat) (hn : va_nd isC = true) (hC : isC.map (fun i => ws[i]?) = wc.map some) : va_D (fun _ => True) wc := (hD.sub isC hn hC).weaken (fun _ _ _ _ => trivial)
/-- behind a call that wrote in its own cells: the caller's cells in their old order -/
theorem up_PD {A0 : Nat → Prop} {D : va_G} {ws ws' wc w1 wr : va_W} {H H1 : Heap} {n : Nat} (hP : va_P D vwCl ws H) (hD : va_D A0 ws) (isC isR : List Nat) (hC : isC.map (fun i => ws[i]?) = wc.map some) (hU : isC.map (fun i => ws'[i]?) = w1.map some) (hR0 : isR.map (fun i => ws[i]?) = wr.map some) (hR : isR.map (fun i => ws'[i]?) = wr.map some) (hlen : ws'.length = n) (hcov : ∀ k, k < n → k ∈ isC ∨ k ∈ isR) (hdis : ∀ i ∈ isR, i ∉ isC) (hadr : ws'.map Prod.fst = ws.map Prod.fst)
    (hk : ∀ q : Nat, q < H.size → ¬ adr wc q → H1[q]? = H[q]?) (hP1 : va_P D vwCl w1 H1) : va_P D vwCl ws' H1 ∧ va_D A0 ws' := by
  refine ⟨fun k q hkq => ?_, hD.same hadr⟩
  have hl : k < n := by rw [← hlen]; exact (List.getElem?_eq_some_iff.mp hkq).1
  rcases hcov k hl with hc | hr
  · obtain ⟨j, hj⟩ := List.getElem?_of_mem hc
    have h1 : (isC.map (fun i => ws'[i]?))[j]? = some (some q) := by rw [List.getElem?_map, hj]; exact congrArg some hkq
    rw [hU, List.getElem?_map] at h1
    cases hw : w1[j]? with
    | none => rw [hw] at h1; cases h1
    | some e => rw [hw] at h1; obtain rfl := Option.some.inj (Option.some.inj h1); exact hP1 j _ hw
  · obtain ⟨j, hj⟩ := List.getElem?_of_mem hr
    have h1 : (isR.map (fun i => ws'[i]?))[j]? = some (some q) := by rw [List.getElem?_map, hj]; exact congrArg some hkq
    rw [hR, ← hR0, List.getElem?_map, hj] at h1
    have h2 : ws[k]? = some q := Option.some.inj h1
    refine (hP k q h2).kept (hk q.1 (hP k q h2).lt fun ha => ?_)
    obtain ⟨i, e, h3, h4, h5⟩ := adr_in isC hC ha
    have := hD.1 k i q e h2 h4 h5.symm
    subst this
    exact hdis k hr h3
section XR
variable {p : Program} {l : Launch} {e : Env} {R : Room} {s : State} {m : MethodId} {args : Array Value} {below : List Frame} {meth : Method} {c : Code} {H : Heap} {locs : List Loc} {cells slots : Nat} {Q : State → Prop}
variable {cc : ByteArray} {pc : Nat} {ls : Array Slot} {rest st0 : List Value} {a0 : Array Value} {D : va_G} {ca : Nat → ClassId} {A : Nat → Prop} {a : Nat} {ws ws' wc : va_W} {H0 : Heap}
theorem rd_calli {post : Int32 → Prop} (hr : va_Run p l e R s m args below meth c H locs cells slots 0 0 (F0 m pc ls st0) rest (rdI post a0) (fun _ => False))
    (kk : ∀ r : Int32, post r → W p l e R s m args below meth c H locs cells slots Q (F0 m (pc + 3) ls (.int r :: rest))) : W p l e R s m args below meth c H locs cells slots Q (F0 m pc ls st0) := by
  intro T hT X
  obtain ⟨v, st₀, t, T', L, h0, X', hL, e1, -, ⟨r, hv, hp, hh⟩, st⟩ := hr T hT X
  cases hv
  obtain ⟨t2, a1, b1⟩ := kk r hp T' (by rw [e1, hh, h0]) (Stand.forget X' (fun q h => (hL q h).elim))
  exact ⟨t2, st t2 a1, b1⟩
theorem rd_callz {post : Int32 → Prop} (hr : va_Run p l e R s m args below meth c H locs cells slots 0 0 (F0 m pc ls st0) rest (rdZ post a0) (fun _ => False))
    (kk : ∀ r : Int32, post r → narrow .boolean (.int r) = .int r → W p l e R s m args below meth c H locs cells slots Q (F0 m (pc + 3) ls (.int r :: rest))) : W p l e R s m args below meth c H locs cells slots Q (F0 m pc ls st0) := by
  intro T hT X
  obtain ⟨v, st₀, t, T', L, h0, X', hL, e1, -, ⟨r, hv, hp, hh⟩, st⟩ := hr T hT X
  cases hv
  obtain ⟨t2, a1, b1⟩ := kk r hp.1 hp.2 T' (by rw [e1, hh, h0]) (Stand.forget X' (fun q h => (hL q h).elim))
  exact ⟨t2, st t2 a1, b1⟩
theorem rd_calll {post : Int64 → Prop} (hr : va_Run p l e R s m args below meth c H locs cells slots 0 0 (F0 m pc ls st0) rest (rdL post a0) (fun _ => False))
    (kk : ∀ r : Int64, post r → W p l e R s m args below meth c H locs cells slots Q (F0 m (pc + 3) ls (.long r :: rest))) : W p l e R s m args below meth c H locs cells slots Q (F0 m pc ls st0) := by
  intro T hT X
  obtain ⟨v, st₀, t, T', L, h0, X', hL, e1, -, ⟨r, hv, hp, hh⟩, st⟩ := hr T hT X
  cases hv
  obtain ⟨t2, a1, b1⟩ := kk r hp T' (by rw [e1, hh, h0]) (Stand.forget X' (fun q h => (hL q h).elim))
  exact ⟨t2, st t2 a1, b1⟩
theorem rd_callv {post : Prop} (hr : va_Run p l e R s m args below meth c H locs cells slots 0 0 (F0 m pc ls st0) rest (rdV post a0) (fun _ => False))
    (kk : post → W p l e R s m args below meth c H locs cells slots Q (F0 m (pc + 3) ls rest)) : W p l e R s m args below meth c H locs cells slots Q (F0 m pc ls st0) := by
  intro T hT X
  obtain ⟨v, st₀, t, T', L, h0, X', hL, e1, -, ⟨hv, hp, hh⟩, st⟩ := hr T hT X
  cases hv
  obtain ⟨t2, a1, b1⟩ := kk hp T' (by rw [e1, hh, h0]) (Stand.forget X' (fun q h => (hL q h).elim))
  exact ⟨t2, st t2 a1, b1⟩
theorem va_S.call {H1 : Heap} {L : List Loc} (hS : va_S A H0 H locs) (hA : ∀ q, adr wc q → A q) (hz : H.size ≤ H1.size) (hk : ∀ q : Nat, q < H.size → ¬ adr wc q → H1[q]? = H[q]?) (hL : ∀ q ∈ L, adr wc q.base) : va_S A H0 H1 (locs ++ L) :=
  ⟨Nat.le_trans hS.1 hz, fun q h1 h2 => by rw [hk q (Nat.lt_of_lt_of_le h1 hS.1) (fun z => h2 (hA q z))]; exact hS.2.1 q h1 h2, fun q hq => by
    rcases List.mem_append.mp hq with h | h
    · exact hS.2.2 q h
    · exact hA _ (hL q h)⟩
/-- a call that writes: the world behind it -/
theorem wr_calli {S : Type} {wd : S → va_W} {ws1 : S → va_W} {n : Nat} {wr : va_W} {post : Int32 → S → Prop} (hr : va_Run p l e R s m args below meth c H locs cells slots 0 0 (F0 m pc ls st0) rest (wrI D wc wd post a0) (adr wc))
    (hP : va_P D vwCl ws H) (hD : va_D A ws) (hS : va_S A H0 H locs) (isC isR : List Nat) (hC : isC.map (fun i => ws[i]?) = wc.map some) (hU : ∀ u, isC.map (fun i => (ws1 u)[i]?) = (wd u).map some) (hR0 : isR.map (fun i => ws[i]?) = wr.map some) (hR : ∀ u, isR.map (fun i => (ws1 u)[i]?) = wr.map some) (hlen : ∀ u, (ws1 u).length = n) (hadr : ∀ u, (ws1 u).map Prod.fst = ws.map Prod.fst) (hcov : ∀ k, k < n → k ∈ isC ∨ k ∈ isR) (hdis : ∀ i ∈ isR, i ∉ isC)
    (kk : ∀ (r : Int32) (u : S) (H1 : Heap) (locs1 : List Loc), post r u → va_P D vwCl (ws1 u) H1 → va_D A (ws1 u) → va_S A H0 H1 locs1 → W p l e R s m args below meth c H1 locs1 cells slots Q (F0 m (pc + 3) ls (.int r :: rest))) : W p l e R s m args below meth c H locs cells slots Q (F0 m pc ls st0) := by
  intro T hT X
  obtain ⟨v, st₀, t, T', L, h0, X', hL, e1, -, ⟨⟨r, u, hv, hp, hb⟩, hz, hk⟩, st⟩ := hr T hT X
  cases hv
  rw [h0] at hz hk
  rw [← e1] at hz hk hb
  obtain ⟨hP1, hD1⟩ := up_PD hP hD isC isR hC (hU u) hR0 (hR u) (hlen u) hcov hdis (hadr u) hk hb
  obtain ⟨t2, a1, b1⟩ := kk r u T'.heap (locs ++ L) hp hP1 hD1 (hS.call (adr_sub hD isC hC) hz hk hL) T' rfl X'
  exact ⟨t2, st t2 a1, b1⟩
theorem wr_callz {S : Type} {wd : S → va_W} {ws1 : S → va_W} {n : Nat} {wr : va_W} {post : Int32 → S → Prop} (hr : va_Run p l e R s m args below meth c H locs cells slots 0 0 (F0 m pc ls st0) rest (wrZ D wc wd post a0) (adr wc))
    (hP : va_P D vwCl ws H) (hD : va_D A ws) (hS : va_S A H0 H locs) (isC isR : List Nat) (hC : isC.map (fun i => ws[i]?) = wc.map some) (hU : ∀ u, isC.map (fun i => (ws1 u)[i]?) = (wd u).map some) (hR0 : isR.map (fun i => ws[i]?) = wr.map some) (hR : ∀ u, isR.map (fun i => (ws1 u)[i]?) = wr.map some) (hlen : ∀ u, (ws1 u).length = n) (hadr : ∀ u, (ws1 u).map Prod.fst = ws.map Prod.fst) (hcov : ∀ k, k < n → k ∈ isC ∨ k ∈ isR) (hdis : ∀ i ∈ isR, i ∉ isC)
    (kk : ∀ (r : Int32) (u : S) (H1 : Heap) (locs1 : List Loc), post r u → narrow .boolean (.int r) = .int r → va_P D vwCl (ws1 u) H1 → va_D A (ws1 u) → va_S A H0 H1 locs1 → W p l e R s m args below meth c H1 locs1 cells slots Q (F0 m (pc + 3) ls (.int r :: rest))) : W p l e R s m args below meth c H locs cells slots Q (F0 m pc ls st0) := by
  intro T hT X
  obtain ⟨v, st₀, t, T', L, h0, X', hL, e1, -, ⟨⟨r, u, hv, hp, hb⟩, hz, hk⟩, st⟩ := hr T hT X
  cases hv
  rw [h0] at hz hk
  rw [← e1] at hz hk hb
  obtain ⟨hP1, hD1⟩ := up_PD hP hD isC isR hC (hU u) hR0 (hR u) (hlen u) hcov hdis (hadr u) hk hb
  obtain ⟨t2, a1, b1⟩ := kk r u T'.heap (locs ++ L) hp.1 hp.2 hP1 hD1 (hS.call (adr_sub hD isC hC) hz hk hL) T' rfl X'
  exact ⟨t2, st t2 a1, b1⟩
theorem wr_calll {S : Type} {wd : S → va_W} {ws1 : S → va_W} {n : Nat} {wr : va_W} {post : Int64 → S → Prop} (hr : va_Run p l e R s m args below meth c H locs cells slots 0 0 (F0 m pc ls st0) rest (wrL D wc wd post a0) (adr wc))
    (hP : va_P D vwCl ws H) (hD : va_D A ws) (hS : va_S A H0 H locs) (isC isR : List Nat) (hC : isC.map (fun i => ws[i]?) = wc.map some) (hU : ∀ u, isC.map (fun i => (ws1 u)[i]?) = (wd u).map some) (hR0 : isR.map (fun i => ws[i]?) = wr.map some) (hR : ∀ u, isR.map (fun i => (ws1 u)[i]?) = wr.map some) (hlen : ∀ u, (ws1 u).length = n) (hadr : ∀ u, (ws1 u).map Prod.fst = ws.map Prod.fst) (hcov : ∀ k, k < n → k ∈ isC ∨ k ∈ isR) (hdis : ∀ i ∈ isR, i ∉ isC)
    (kk : ∀ (r : Int64) (u : S) (H1 : Heap) (locs1 : List Loc), post r u → va_P D vwCl (ws1 u) H1 → va_D A (ws1 u) → va_S A H0 H1 locs1 → W p l e R s m args below meth c H1 locs1 cells slots Q (F0 m (pc + 3) ls (.long r :: rest))) : W p l e R s m args below meth c H locs cells slots Q (F0 m pc ls st0) := by
  intro T hT X
  obtain ⟨v, st₀, t, T', L, h0, X', hL, e1, -, ⟨⟨r, u, hv, hp, hb⟩, hz, hk⟩, st⟩ := hr T hT X
  cases hv
  rw [h0] at hz hk
  rw [← e1] at hz hk hb
  obtain ⟨hP1, hD1⟩ := up_PD hP hD isC isR hC (hU u) hR0 (hR u) (hlen u) hcov hdis (hadr u) hk hb
  obtain ⟨t2, a1, b1⟩ := kk r u T'.heap (locs ++ L) hp hP1 hD1 (hS.call (adr_sub hD isC hC) hz hk hL) T' rfl X'
  exact ⟨t2, st t2 a1, b1⟩
theorem wr_callv {S : Type} {wd : S → va_W} {ws1 : S → va_W} {n : Nat} {wr : va_W} {post : S → Prop} (hr : va_Run p l e R s m args below meth c H locs cells slots 0 0 (F0 m pc ls st0) rest (wrV D wc wd post a0) (adr wc))
    (hP : va_P D vwCl ws H) (hD : va_D A ws) (hS : va_S A H0 H locs) (isC isR : List Nat) (hC : isC.map (fun i => ws[i]?) = wc.map some) (hU : ∀ u, isC.map (fun i => (ws1 u)[i]?) = (wd u).map some) (hR0 : isR.map (fun i => ws[i]?) = wr.map some) (hR : ∀ u, isR.map (fun i => (ws1 u)[i]?) = wr.map some) (hlen : ∀ u, (ws1 u).length = n) (hadr : ∀ u, (ws1 u).map Prod.fst = ws.map Prod.fst) (hcov : ∀ k, k < n → k ∈ isC ∨ k ∈ isR) (hdis : ∀ i ∈ isR, i ∉ isC)
    (kk : ∀ (u : S) (H1 : Heap) (locs1 : List Loc), post u → va_P D vwCl (ws1 u) H1 → va_D A (ws1 u) → va_S A H0 H1 locs1 → W p l e R s m args below meth c H1 locs1 cells slots Q (F0 m (pc + 3) ls rest)) : W p l e R s m args below meth c H locs cells slots Q (F0 m pc ls st0) := by
  intro T hT X
  obtain ⟨v, st₀, t, T', L, h0, X', hL, e1, -, ⟨⟨u, hv, hp, hb⟩, hz, hk⟩, st⟩ := hr T hT X
  cases hv
  rw [h0] at hz hk
  rw [← e1] at hz hk hb
  obtain ⟨hP1, hD1⟩ := up_PD hP hD isC isR hC (hU u) hR0 (hR u) (hlen u) hcov hdis (hadr u) hk hb
  obtain ⟨t2, a1, b1⟩ := kk u T'.heap (locs ++ L) hp hP1 hD1 (hS.call (adr_sub hD isC hC) hz hk hL) T' rfl X'
  exact ⟨t2, st t2 a1, b1⟩
/-! arrays -/
theorem x_iald (hexec : p.tables.exec = Jvm.exec) (hb : c.code = cc) (hK : KX D ca s) (hP : va_P D vwCl ws H) (q0 : Nat) {n : Nat} {f : Nat → Int32} (ha : ws[q0]? = some (a, .inl (ca 0, n, .inl f))) {i v : Int32} (hin : vp_in i n) (hv : f i.toNatClampNeg = v) (hdg : decode cc pc = .ok (.iaload, 1))
    (kk : W p l e R s m args below meth c H locs cells slots Q (F0 m (pc + 1) ls (.int v :: rest))) : W p l e R s m args below meth c H locs cells slots Q (F0 m pc ls (.int i :: .ref a :: rest)) := by
  subst hv
  exact va_iald hexec hb hK.1 hP q0 0 ha rfl hin hdg kk
theorem x_zald (hexec : p.tables.exec = Jvm.exec) (hb : c.code = cc) (hK : KX D ca s) (hP : va_P D vwCl ws H) (q0 : Nat) {n : Nat} {f : Nat → Int32} (ha : ws[q0]? = some (a, .inl (ca 1, n, .inl f))) {i v : Int32} (hin : vp_in i n) (hv : f i.toNatClampNeg = v) (hdg : decode cc pc = .ok (.baload, 1))
    (kk : W p l e R s m args below meth c H locs cells slots Q (F0 m (pc + 1) ls (.int v :: rest))) : W p l e R s m args below meth c H locs cells slots Q (F0 m pc ls (.int i :: .ref a :: rest)) := by
  subst hv
  exact va_zald hexec hb hK.1 hP q0 1 ha rfl hin hdg kk
theorem x_lald (hexec : p.tables.exec = Jvm.exec) (hb : c.code = cc) (hK : KX D ca s) (hP : va_P D vwCl ws H) (q0 : Nat) {n : Nat} {f : Nat → Int64} (ha : ws[q0]? = some (a, .inl (ca 2, n, .inr (.inl f)))) {i : Int32} {v : Int64} (hin : vp_in i n) (hv : f i.toNatClampNeg = v) (hdg : decode cc pc = .ok (.laload, 1))
    (kk : W p l e R s m args below meth c H locs cells slots Q (F0 m (pc + 1) ls (.long v :: rest))) : W p l e R s m args below meth c H locs cells slots Q (F0 m pc ls (.int i :: .ref a :: rest)) := by
  subst hv
  exact va_lald hexec hb hK.1 hP q0 2 ha rfl hin hdg kk
theorem x_alen (hexec : p.tables.exec = Jvm.exec) (hb : c.code = cc) (hK : KX D ca s) (hP : va_P D vwCl ws H) (q0 : Nat) {n : Nat} {f : Nat → Int32} (ha : ws[q0]? = some (a, .inl (ca 0, n, .inl f))) {v : Int32} (hv : nI n = v) (hdg : decode cc pc = .ok (.arraylength, 1))
    (kk : W p l e R s m args below meth c H locs cells slots Q (F0 m (pc + 1) ls (.int v :: rest))) : W p l e R s m args below meth c H locs cells slots Q (F0 m pc ls (.ref a :: rest)) :=
  va_alen hexec hb hK.1 hP q0 0 ha rfl hv hdg kk
theorem x_iast (hexec : p.tables.exec = Jvm.exec) (hb : c.code = cc) (hK : KX D ca s) (hP : va_P D vwCl ws H) (hD : va_D A ws) (hS : va_S A H0 H locs) (q0 : Nat) {n k : Nat} {f : Nat → Int32} (ha : ws[q0]? = some (a, .inl (ca 0, n, .inl f))) {i x : Int32} (hin : vp_in i n) (hk : i.toNatClampNeg = k) (hw : ws.set q0 (a, .inl (ca 0, n, .inl (upd f k x))) = ws') (hdg : decode cc pc = .ok (.iastore, 1))
    (kk : ∀ (H1 : Heap) (locs1 : List Loc), va_P D vwCl ws' H1 → va_D A ws' → va_S A H0 H1 locs1 → W p l e R s m args below meth c H1 locs1 cells slots Q (F0 m (pc + 1) ls rest)) : W p l e R s m args below meth c H locs cells slots Q (F0 m pc ls (.int x :: .int i :: .ref a :: rest)) := by
  subst hk; subst hw
  exact va_iast hexec hb hK.1 hP hD hS q0 0 ha rfl hin hdg kk
theorem x_zast (hexec : p.tables.exec = Jvm.exec) (hb : c.code = cc) (hK : KX D ca s) (hP : va_P D vwCl ws H) (hD : va_D A ws) (hS : va_S A H0 H locs) (q0 : Nat) {n k : Nat} {f : Nat → Int32} (ha : ws[q0]? = some (a, .inl (ca 1, n, .inl f))) {i x : Int32} (hin : vp_in i n) (hk : i.toNatClampNeg = k) (hw : ws.set q0 (a, .inl (ca 1, n, .inl (upd f k (vp_nar .boolean x)))) = ws') (hdg : decode cc pc = .ok (.bastore, 1))
    (kk : ∀ (H1 : Heap) (locs1 : List Loc), va_P D vwCl ws' H1 → va_D A ws' → va_S A H0 H1 locs1 → W p l e R s m args below meth c H1 locs1 cells slots Q (F0 m (pc + 1) ls rest)) : W p l e R s m args below meth c H locs cells slots Q (F0 m pc ls (.int x :: .int i :: .ref a :: rest)) := by
  subst hk; subst hw
  exact va_zast hexec hb hK.1 hP hD hS q0 1 ha rfl hin hdg kk
theorem x_last (hexec : p.tables.exec = Jvm.exec) (hb : c.code = cc) (hK : KX D ca s) (hP : va_P D vwCl ws H) (hD : va_D A ws) (hS : va_S A H0 H locs) (q0 : Nat) {n k : Nat} {f : Nat → Int64} (ha : ws[q0]? = some (a, .inl (ca 2, n, .inr (.inl f)))) {i : Int32} {x : Int64} (hin : vp_in i n) (hk : i.toNatClampNeg = k) (hw : ws.set q0 (a, .inl (ca 2, n, .inr (.inl (vp_updL f k x)))) = ws') (hdg : decode cc pc = .ok (.lastore, 1))
    (kk : ∀ (H1 : Heap) (locs1 : List Loc), va_P D vwCl ws' H1 → va_D A ws' → va_S A H0 H1 locs1 → W p l e R s m args below meth c H1 locs1 cells slots Q (F0 m (pc + 1) ls rest)) : W p l e R s m args below meth c H locs cells slots Q (F0 m pc ls (.long x :: .int i :: .ref a :: rest)) := by
  subst hk; subst hw
  exact va_last hexec hb hK.1 hP hD hS q0 2 ha rfl hin hdg kk
theorem x_aldq (hexec : p.tables.exec = Jvm.exec) (hb : c.code = cc) (hK : KX D ca s) (hP : va_P D vwCl ws H) (q0 : Nat) {n : Nat} {f : Nat → Option Nat} (ha : ws[q0]? = some (a, .inl (ca 3, n, .inr (.inr (.inr (.inr f)))))) {i : Int32} (hin : vp_in i n) (hdg : decode cc pc = .ok (.aaload, 1))
    (kk : W p l e R s m args below meth c H locs cells slots Q (F0 m (pc + 1) ls (va_rf (f i.toNatClampNeg) :: rest))) : W p l e R s m args below meth c H locs cells slots Q (F0 m pc ls (.int i :: .ref a :: rest)) :=
  va_aldq hexec hb hK.1 hP q0 3 ha rfl hin hdg kk
theorem x_astN (hexec : p.tables.exec = Jvm.exec) (hb : c.code = cc) (hK : KX D ca s) (hP : va_P D vwCl ws H) (hD : va_D A ws) (hS : va_S A H0 H locs) (q0 : Nat) {n k : Nat} {f : Nat → Option Nat} (ha : ws[q0]? = some (a, .inl (ca 3, n, .inr (.inr (.inr (.inr f)))))) {i : Int32} (hin : vp_in i n) (hk : i.toNatClampNeg = k) (hw : ws.set q0 (a, .inl (ca 3, n, .inr (.inr (.inr (.inr (va_up f k none)))))) = ws') (hdg : decode cc pc = .ok (.aastore, 1))
    (kk : ∀ (H1 : Heap) (locs1 : List Loc), va_P D vwCl ws' H1 → va_D A ws' → va_S A H0 H1 locs1 → W p l e R s m args below meth c H1 locs1 cells slots Q (F0 m (pc + 1) ls rest)) : W p l e R s m args below meth c H locs cells slots Q (F0 m pc ls (.null :: .int i :: .ref a :: rest)) := by
  subst hk; subst hw
  exact va_astqN hexec hb hK.1 hP hD hS q0 3 ha rfl hin hdg kk
theorem x_nul (hexec : p.tables.exec = Jvm.exec) (hb : c.code = cc) {v : Option Nat} {off : Int} {tgt : Nat} (hdg : decode cc pc = .ok (.ifnull off, 3)) (ht : (pc : Int) + off = (tgt : Int)) (k1 : v = none → W p l e R s m args below meth c H locs cells slots Q (F0 m tgt ls rest)) (k2 : ¬ v = none → W p l e R s m args below meth c H locs cells slots Q (F0 m (pc + 3) ls rest)) : W p l e R s m args below meth c H locs cells slots Q (F0 m pc ls (va_rf v :: rest)) := by
  cases v with
  | none => exact lv_ifnullN hexec hb hdg ht (k1 rfl)
  | some y => exact lv_ifnull hexec hb hdg (k2 (fun h => by cases h))
theorem x_nnul (hexec : p.tables.exec = Jvm.exec) (hb : c.code = cc) {v : Option Nat} {off : Int} {tgt : Nat} (hdg : decode cc pc = .ok (.ifnonnull off, 3)) (ht : (pc : Int) + off = (tgt : Int)) (k1 : ¬ v = none → W p l e R s m args below meth c H locs cells slots Q (F0 m tgt ls rest)) (k2 : v = none → W p l e R s m args below meth c H locs cells slots Q (F0 m (pc + 3) ls rest)) : W p l e R s m args below meth c H locs cells slots Q (F0 m pc ls (va_rf v :: rest)) := by
  cases v with
  | none => exact lv_ifnonnullN hexec hb hdg (k2 rfl)
  | some y => exact lv_ifnonnull hexec hb hdg ht (k1 (fun h => by cases h))
end XR
theorem vin_lit {i : Int32} {n : Nat} (h : decide (i < 0 ∨ n ≤ i.toNatClampNeg) = false) : vp_in i n := of_decide_eq_false h
theorem nar0 : narrow .boolean (.int 0) = .int 0 := by decide
theorem nar1 : narrow .boolean (.int 1) = .int 1 := by decide
theorem x_swOut {x : Int32} {n : Nat} (hn : n < 2 ^ 31) (h : ∀ j, j < n → ¬ x = nI j) : x.toInt < 0 ∨ ((n : Int) - 1) < x.toInt := by
  by_cases h0 : x < 0
  · exact Or.inl (by simpa using Int32.lt_iff_toInt_lt.mp h0)
  · obtain ⟨j, hj, rfl⟩ := nI_of h0
    right
    rw [nI_toInt hj]
    by_cases hjn : j < n
    · exact absurd rfl (h j hjn)
    · omega
theorem x_swOutL {x : Int32} (lo n hi : Nat) (hn : n ≠ 0) (hb : lo + n < 2 ^ 31) (hh : hi + 1 = lo + n) (h : ∀ j, j < n → ¬ x = nI (lo + j)) : x.toInt < (lo : Int) ∨ (hi : Int) < x.toInt := by
  by_cases h0 : x < 0
  · left
    have : x.toInt < 0 := by simpa using Int32.lt_iff_toInt_lt.mp h0
    omega
  · obtain ⟨j, hj, rfl⟩ := nI_of h0
    rw [nI_toInt hj]
    by_cases h1 : j < lo
    · left; omega
    · right
      by_cases h2 : j < lo + n
      · exact absurd (congrArg nI (show j = lo + (j - lo) by omega)) (h (j - lo) (by omega))
      · omega
