/-! the law's start: what is told of the String constant -/
theorem lw_eqt {args : Array Value} {s : State} {tm : Term} {z : Int32} (h : (Cond.eq tm (.int z)).before args s = true) : tm.eval args s none [] s = some (.int z) := by
  cases hv : tm.eval args s none [] s with
  | none => simp [Cond.before, Cond.holds, Cond.value, hv] at h
  | some w =>
    have hz : (Term.int z).eval args s none [] s = some (.int z) := rfl
    simp only [Cond.before, Cond.holds, Cond.value, hv, hz] at h
    cases w <;> simp_all
abbrev tmS : Term := .string "IronedQuarrels$Reader" 30
abbrev tmV : Term := .field tmS "java/lang/String" "value" "[B"
theorem lw_SX {s : State} {b : Nat} (hts : ∀ w ∈ lw_tbl, w.before #[Value.ref b] s = true) (hgv : (Jvm.Cond.and given_1 narrow_1).before #[Value.ref b] s = true) : ∃ sa sd : Nat, SX sa sd (fun q : Nat => s.heap.size ≤ q) s s.heap := by
  have hs := flat_of_before _ hgv
  have hw : ∀ w ∈ wsL_law, w.before #[Value.ref b] s = true := fun w h => hts w (wsL_law_in w h)
  have hA : ∀ a : Nat, a < s.heap.size → ¬ (fun q : Nat => s.heap.size ≤ q) a := fun a h => Nat.not_le.mpr h
  have h0 : (Cond.stringRef RX3 30 "sotpyc").before #[Value.ref b] s = true := by
    first | exact hts _ (by decide +kernel) | exact hs _ (by decide +kernel)
  obtain ⟨cur, hcur⟩ : ∃ cur, s.vm.findClass RX3 = some cur := by
    cases hc : s.vm.findClass RX3 with
    | some c => exact ⟨c, rfl⟩
    | none => simp [Cond.before, Cond.holds, Cond.value, hc] at h0
  obtain ⟨k, cf, i, sa, g1, g2, g3, -, g5, hev⟩ := Cond.stringRef_spec hcur h0
  have hx : (Cond.exactly tmS "java/lang/String").before #[Value.ref b] s = true := hs _ (by decide +kernel)
  obtain ⟨a, c, cell, kc, e1, e2, e3, e4, e5, e6, -⟩ := Cond.exactly_spec hx
  have e0 : a = sa := by
    have := e1.symm.trans hev
    cases this
    rfl
  subst e0
  have hlen : (Term.length tmV).eval #[Value.ref b] s none [] s = some (.int 6) := lw_eqt (hs (.eq (.length tmV) (.int 6)) (by decide +kernel))
  have q0 : (Term.elem tmV (.int 0)).eval #[Value.ref b] s none [] s = some (.int 115) := lw_eqt (hs (.eq (.elem tmV (.int 0)) (.int 115)) (by decide +kernel))
  have q1 : (Term.elem tmV (.int 1)).eval #[Value.ref b] s none [] s = some (.int 111) := lw_eqt (hs (.eq (.elem tmV (.int 1)) (.int 111)) (by decide +kernel))
  have q2 : (Term.elem tmV (.int 2)).eval #[Value.ref b] s none [] s = some (.int 116) := lw_eqt (hs (.eq (.elem tmV (.int 2)) (.int 116)) (by decide +kernel))
  have q3 : (Term.elem tmV (.int 3)).eval #[Value.ref b] s none [] s = some (.int 112) := lw_eqt (hs (.eq (.elem tmV (.int 3)) (.int 112)) (by decide +kernel))
  have q4 : (Term.elem tmV (.int 4)).eval #[Value.ref b] s none [] s = some (.int 121) := lw_eqt (hs (.eq (.elem tmV (.int 4)) (.int 121)) (by decide +kernel))
  have q5 : (Term.elem tmV (.int 5)).eval #[Value.ref b] s none [] s = some (.int 99) := lw_eqt (hs (.eq (.elem tmV (.int 5)) (.int 99)) (by decide +kernel))
  obtain ⟨sd, hvd, hT⟩ := va_Tof (ty := .byte) (N := 6) (f := fun j => .int (lt6 j)) (tm := tmV) (by decide) (hs (.arrayOf tmV .byte) (by decide +kernel)) hlen (fun j hj => by
    rcases (show j = 0 ∨ j = 1 ∨ j = 2 ∨ j = 3 ∨ j = 4 ∨ j = 5 by omega) with rfl | rfl | rfl | rfl | rfl | rfl
    · exact q0
    · exact q1
    · exact q2
    · exact q3
    · exact q4
    · exact q5) hA
  obtain ⟨ci1, cc1, kk1, fi1, ff1, v1, -, -⟩ := Cond.fieldLink_spec e2 (hw (.fieldLink RJ0 9 "java/lang/String" "value" "[B") (List.mem_of_getElem? (i := 278) (by decide +kernel))) {} rfl
  obtain ⟨s1, cell1, t1, t2, t3, t4, t5⟩ := Term.field_spec v1 hev hvd
  cases e3.symm.trans t1
  obtain ⟨ci2, cc2, kk2, fi2, ff2, v2, -, -⟩ := Cond.fieldLink_spec e2 (hw (.fieldLink RJ0 15 "java/lang/String" "coder" "B") (List.mem_of_getElem? (i := 284) (by decide +kernel))) {} rfl
  obtain ⟨s2, cell2, u1, u2, u3, u4, u5⟩ := Term.field_spec v2 hev (lw_eqt (hs (.eq (.field tmS "java/lang/String" "coder" "B") (.int 0)) (by decide +kernel)))
  cases e3.symm.trans u1
  have l1 : (Cond.laysStatic "java/lang/String" "COMPACT_STRINGS" "Z").before #[Value.ref b] s = true := by
    first | exact hts _ (by decide +kernel) | exact hs _ (by decide +kernel)
  have l2 : (Cond.laysStatic "jdk/internal/util/Preconditions" "SIOOBE_FORMATTER" "Ljava/util/function/BiFunction;").before #[Value.ref b] s = true := by
    first | exact hts _ (by decide +kernel) | exact hs _ (by decide +kernel)
  have n1 : (Cond.initialized "java/lang/String").before #[Value.ref b] s = true := by
    first | exact hts _ (by decide +kernel) | exact hs _ (by decide +kernel)
  have n2 : (Cond.initialized "jdk/internal/util/Preconditions").before #[Value.ref b] s = true := by
    first | exact hts _ (by decide +kernel) | exact hs _ (by decide +kernel)
  exact ⟨a, sd, ⟨cur, k, cf, i, hcur, g1, g2, g3, g5⟩, Nat.not_le.mpr (Array.getElem?_eq_some_iff.mp e3).1, ⟨cc1, kk1, fi1, ff1, cell, v1, s1, e3, t2, e5, by rw [e2, e6], t5⟩, ⟨cc2, kk2, fi2, ff2, cell, v2, s2, e3, u2, e5, by rw [e2, e6], u5⟩, hT, va_Zof l1 n1 (va_eqi (hs (.eq (.static "java/lang/String" "COMPACT_STRINGS" "Z") (.int 1)) (by decide +kernel))) hA, va_Zqof l2 n2 (hs (.isRef (.static "jdk/internal/util/Preconditions" "SIOOBE_FORMATTER" "Ljava/util/function/BiFunction;")) (by decide +kernel)) hA⟩
