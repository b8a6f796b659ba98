/-! the law's start: what the tables' words give -/
theorem nest_in : ∀ q ∈ nestL, Cond.methodLinkNest q.1 q.2.1 q.2.2.1 q.2.2.2 ∈ lw_tbl := by decide +kernel
theorem heapA_in : Cond.arrayOver (.object RX1) ∈ lw_tbl := by decide +kernel
theorem lw_KX {s : State} {b : Nat} (hts : ∀ w ∈ lw_tbl, w.before #[Value.ref b] s = true) : ∃ (D : va_G) (ca : Nat → ClassId), KX D ca s := by
  have hw : ∀ w ∈ wsL_law, w.before #[Value.ref b] s = true := fun w h => hts w (wsL_law_in w h)
  obtain ⟨c0, j0, k0⟩ := u_known (C := RX0) (T := TX0) (N := 1) (n := 1) hts inX0 (hw (.instantiable RX0 1) (List.mem_of_getElem? (i := 28) (by decide +kernel)))
  obtain ⟨c1, j1, k1⟩ := u_known (C := RX1) (T := TX1) (N := 10) (n := 10) hts inX1 (hw (.instantiable RX1 10) (List.mem_of_getElem? (i := 18) (by decide +kernel)))
  obtain ⟨c2, j2, k2⟩ := u_known (C := RX2) (T := TX2) (N := 3) (n := 3) hts inX2 (hw (.instantiable RX2 3) (List.mem_of_getElem? (i := 24) (by decide +kernel)))
  obtain ⟨c3, j3, k3⟩ := u_known (C := RX4) (T := TX4) (N := 2) (n := 2) hts inX4 (hw (.instantiable RX4 2) (List.mem_of_getElem? (i := 32) (by decide +kernel)))
  obtain ⟨c4, j4, k4⟩ := u_known (C := RX5) (T := TX5) (N := 3) (n := 3) hts inX5 (hw (.instantiable RX5 3) (List.mem_of_getElem? (i := 13) (by decide +kernel)))
  obtain ⟨c5, j5, k5⟩ := u_known (C := RX6) (T := TX6) (N := 2) (n := 2) hts inX6 (hw (.instantiable RX6 2) (List.mem_of_getElem? (i := 36) (by decide +kernel)))
  obtain ⟨c6, j6, k6⟩ := u_known (C := RX7) (T := TX7) (N := 10) (n := 10) hts inX7 (hw (.instantiable RX7 10) (List.mem_of_getElem? (i := 1) (by decide +kernel)))
  obtain ⟨c7, j7, k7⟩ := u_known (C := RX8) (T := TX8) (N := 17) (n := 17) hts inX8 (hw (.instantiable RX8 17) (List.mem_of_getElem? (i := 4) (by decide +kernel)))
  obtain ⟨dC, dI, hKc⟩ : ∃ (dC : Nat → ClassId) (dI : Nat → Nat → Nat), ∀ (k : Nat) (q : vw_C), vwCl[k]? = some q → u_Kn s q.1 q.2.1 q.2.2 (dC k) (dI k) := by
    refine ⟨fun k => if k = 0 then c0 else if k = 1 then c1 else if k = 2 then c2 else if k = 3 then c3 else if k = 4 then c4 else if k = 5 then c5 else if k = 6 then c6 else c7, fun k => if k = 0 then j0 else if k = 1 then j1 else if k = 2 then j2 else if k = 3 then j3 else if k = 4 then j4 else if k = 5 then j5 else if k = 6 then j6 else j7, ?_⟩
    intro k q hq
    match k, hq with
    | 0, hq => cases hq; exact k0
    | 1, hq => cases hq; exact k1
    | 2, hq => cases hq; exact k2
    | 3, hq => cases hq; exact k3
    | 4, hq => cases hq; exact k4
    | 5, hq => cases hq; exact k5
    | 6, hq => cases hq; exact k6
    | 7, hq => cases hq; exact k7
    | k + 8, hq => simp [vwCl] at hq
  obtain ⟨a0, z0, m0, f0, g0, h0⟩ := Cond.arrayClass_spec (hw (.arrayClass .int) (List.mem_of_getElem? (i := 45) (by decide +kernel)))
  obtain ⟨a1, z1, m1, f1, g1, h1⟩ := Cond.arrayClass_spec (hw (.arrayClass .boolean) (List.mem_of_getElem? (i := 95) (by decide +kernel)))
  obtain ⟨a2, z2, m2, f2, g2, h2⟩ := Cond.arrayClass_spec (hw (.arrayClass .long) (List.mem_of_getElem? (i := 101) (by decide +kernel)))
  obtain ⟨m3, a3, z3, e3, -, g3, h3, f3⟩ := Cond.arrayOver_spec (hts _ heapA_in)
  refine ⟨(dC, dI), fun k => if k = 0 then a0 else if k = 1 then a1 else if k = 2 then a2 else a3, ⟨hKc, ?_⟩, ?_⟩
  · intro k q hq
    match k, hq with
    | 0, hq => cases hq; exact ⟨fun n z => ⟨fun k h => (by cases h), z0, g0, m0, h0⟩, f0⟩
    | 1, hq => cases hq; exact ⟨fun n z => ⟨fun k h => (by cases h), z1, g1, m1, h1⟩, f1⟩
    | 2, hq => cases hq; exact ⟨fun n z => ⟨fun k h => (by cases h), z2, g2, m2, h2⟩, f2⟩
    | 3, hq => cases hq; exact ⟨fun n z => ⟨fun k h => (by cases h), z3, g3, m3, h3⟩, ⟨z3, m3, g3, h3, e3, f3⟩⟩
    | k + 4, hq => simp [tysX] at hq
  · intro q hq
    exact va_Nw.of rfl (hts _ (nest_in q hq))
