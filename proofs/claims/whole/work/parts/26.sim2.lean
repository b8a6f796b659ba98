/-! the sayings, read: the class answers as the reference -/
theorem z_7 : (7 : Int32) = nI 7 := rfl
theorem z_8 : (8 : Int32) = nI 8 := rfl
theorem y_7 : (7 : Int64) = (nI 7).toInt64 := by decide
theorem y_20 : (20 : Int64) = (nI 20).toInt64 := by decide
theorem e_inYc {j b : Nat} (hj : j ≤ b) (h1 : 1 ≤ j) (hb : b < 2 ^ 31) (post : Int32 → Prop) : wp_X8_in (nI j).toInt64 (1 : Int64) (nI b).toInt64 post = post 1 := by
  rw [y_1, e_in]
  have h1 : ¬ nI j < 1 := nI_nlt (a := 1) (b := j) |> fun f => by
    intro hh
    have : nI j < nI 1 := hh
    rw [q_ltI (by omega) (by omega)] at this
    omega
  have h2 : ¬ nI b < nI j := nI_nlt hj (by omega)
  simp [h1, h2]
section HE
variable {kinds whos toWhoms topics weights answered now : Nat → Int32} {n s : Nat} {h : Nat → Nat → Nat}
/-- whose a stain can be -/
def suspS (h : Nat → Nat → Nat) (i : Nat) : Nat := nd (if h 5 i = 0 then 63 else nd (orM i (fun _ => true) (fun e => 2 ^ h 2 e)) (2 ^ h 1 (h 5 i - 1))) (2 ^ h 2 i)
theorem told_lt (hW : HW n h) {i : Nat} (hi : i < n) : orM i (fun _ => true) (fun e => 2 ^ h 2 e) < 64 := orM_lt (N := 6) fun e he _ => pw_lt (hW.2 e (by omega)).2.2.1
theorem susp_lt (hW : HW n h) {i : Nat} (hi : i < n) : suspS h i < 64 := by
  unfold suspS
  refine nd_lt (n := 6) ?_
  split
  · decide
  · exact nd_lt (n := 6) (told_lt hW hi)
theorem e_suspects (hR : HR kinds whos toWhoms topics weights answered n h) (hW : HW n h) {i : Nat} (hi : i < n) (post : Int32 → Prop) : wp_X0_suspects whos toWhoms answered (nI n) (nI i) post = post (nI (suspS h i)) := by
  have hn := hW.1
  have h1 := hW.an hi
  have hb := hW.2 i hi
  obtain ⟨r0, r1, r2, r3, r4, r5⟩ := hR i hi
  simp (disch := omega) only [wp_X0_suspects, wb_X0_suspects_37, wp_X1_answeredBy, wp_X1_toWhomOf, wp_X1_whoOf, q_in, q_cl, r5, r2, e_hasAns, e_bit, z_63, q_nd]
  cases h5 : h 5 i with
  | zero => simp [suspS, h5]
  | succ j =>
    have hj : j < n := by omega
    have hb2 := hW.2 j hj
    obtain ⟨t0, t1, t2, t3, t4, t5⟩ := hR j hj
    simp (disch := omega) only [e_toldAhead hR hW, show ansI (j + 1) = nI j from rfl, q_in, q_cl, t1, e_bit, q_nd]
    simp [suspS, h5]
theorem e_handsOf (hM : MH now n h) (hW : HW n h) {i : Nat} (hi : i < n) (post : Int32 → Prop) : wp_X8_handsOf now (nI i) post = post (nI (suspS h i)) := by
  have hn := hW.1
  have h1 := hW.an hi
  have hb := hW.2 i hi
  have htl := told_lt hW hi
  obtain ⟨r0, r1, r2, r3, r4, r5⟩ := hM.2 i hi
  have key : ∀ (t0 : Nat), t0 < 64 → (∃ zn, wl_X8_handsOf_26 now (nI i) post zn (ansI (h 5 i)) (nI t0) 0) = post (nI (nd (t0 ||| orM i (fun _ => true) (fun e => 2 ^ h 2 e)) (2 ^ h 2 i ||| (if h 5 i = 0 then 0 else 2 ^ h 1 (h 5 i - 1))))) := by
    intro t0 ht0
    have q := lpG (σ := Int32 × Int32 × Int32) (fun K x => wb_X8_handsOf_26 now (nI i) post (fun u v w => K (u, v, w)) x.1 x.2.1 x.2.2) (fun z x => wl_X8_handsOf_26 now (nI i) post z x.1 x.2.1 x.2.2) (fun _ => rfl) (fun _ _ => rfl) i (fun k => (ansI (h 5 i), nI (t0 ||| orM k (fun _ => true) (fun e => 2 ^ h 2 e)), nI k)) (post (nI (nd (t0 ||| orM i (fun _ => true) (fun e => 2 ^ h 2 e)) (2 ^ h 2 i ||| (if h 5 i = 0 then 0 else 2 ^ h 1 (h 5 i - 1)))))) ?_ ?_
    · simpa [orM, show nI 0 = 0 from rfl] using q
    · intro k K hk
      have nk : ¬ i ≤ k := by omega
      have hb2 := hW.2 k (by omega)
      obtain ⟨u0, u1, u2, u3, u4, u5⟩ := hM.2 k (by omega)
      show wb_X8_handsOf_26 now (nI i) post (fun u v w => K (u, v, w)) (ansI (h 5 i)) (nI (t0 ||| orM k (fun _ => true) (fun e => 2 ^ h 2 e))) (nI k) = K (ansI (h 5 i), nI (t0 ||| orM (k + 1) (fun _ => true) (fun e => 2 ^ h 2 e)), nI (k + 1))
      simp (disch := omega) only [wb_X8_handsOf_26, q_le, nk, z_27, nI_add, q_in, q_cl, u2, q_sh, q_or, nI_1]
      simp [orM, Nat.or_assoc]
    · intro K
      show wb_X8_handsOf_26 now (nI i) post (fun u v w => K (u, v, w)) (ansI (h 5 i)) (nI (t0 ||| orM i (fun _ => true) (fun e => 2 ^ h 2 e))) (nI i) = _
      simp (disch := omega) only [wb_X8_handsOf_26, wb_X8_handsOf_85, q_le, z_27, z_15, nI_add, q_in, q_cl, r2, q_a9, q_sh]
      cases h5 : h 5 i with
      | zero =>
        simp only [z_0, q_or, q_nd]
        simp
      | succ j =>
        have hb2 := hW.2 j (by omega)
        obtain ⟨u0, u1, u2, u3, u4, u5⟩ := hM.2 j (by omega)
        simp (disch := omega) only [show ansI (j + 1) = nI j from rfl, nI_add, q_in, q_cl, u1, q_sh, q_or, q_nd]
        simp
  have k0 := key 0 (by omega)
  have k63 := key 63 (by omega)
  simp (disch := omega) only [wp_X8_handsOf, z_63, nI_add, q_in, q_cl, r5, q_a9]
  have k0' : (∃ zn, wl_X8_handsOf_26 now (nI i) post zn (ansI (h 5 i)) 0 0) = _ := k0
  simp only [k0', k63]
  by_cases h5 : h 5 i = 0
  · have e1 : nd (63 ||| orM i (fun _ => true) (fun e => 2 ^ h 2 e)) (2 ^ h 2 i ||| 0) = suspS h i := by
      unfold suspS
      rw [if_pos h5, Nat.or_zero]
      congr 1
      refine set_ext (n := 6) (or_lt (n := 6) (by decide) htl) (by decide) fun e he => ?_
      rw [Nat.testBit_or]
      have : (63 : Nat).testBit e = true := by
        have := Nat.testBit_two_pow_sub_one 6 e
        simpa [he] using this
      rw [this]; rfl
    rw [Nat.or_zero] at e1
    simp [h5, e1]
  · have e1 : nd (0 ||| orM i (fun _ => true) (fun e => 2 ^ h 2 e)) (2 ^ h 2 i ||| 2 ^ h 1 (h 5 i - 1)) = suspS h i := by
      unfold suspS
      rw [if_neg h5, Nat.zero_or]
      refine set_ext (n := 6) (nd_lt (n := 6) htl) (nd_lt (n := 6) (nd_lt (n := 6) htl)) fun e he => ?_
      rw [tb_nd (by omega), tb_nd (by omega), tb_nd (by omega), Nat.testBit_or]
      cases (orM i (fun _ => true) (fun e => 2 ^ h 2 e)).testBit e <;> cases (2 ^ h 2 i).testBit e <;> cases (2 ^ h 1 (h 5 i - 1)).testBit e <;> rfl
    simp [h5] at e1 ⊢
    rw [e1]
theorem s_leans (hR : HR kinds whos toWhoms topics weights answered n h) (hM : MH now n h) (hW : HW n h) (i : Int32) : wp_X7_leans answered (nI n) i (fun a => wp_X8_leans now i (fun a' => a = a')) := by
  have hn := hW.1
  rcases pk_ix i (n := n) (by omega) with hi | hi | ⟨i, hi, rfl⟩
  · simp only [wp_X7_leans, e_hasNumN hW (Or.inl hi), wp_X8_leans, e_isSayingN hM hW (Or.inl hi)]
    simp
  · simp only [wp_X7_leans, e_hasNumN hW (Or.inr hi), wp_X8_leans, e_isSayingN hM hW (Or.inr hi)]
    simp
  · simp (disch := omega) only [wp_X7_leans, e_hasNum, wp_X8_leans, e_isSayingY hM hW, e_leanedOn hR hW, e_leansOf hM hW, if_pos hi, n_1]
    simp
theorem e_mfeeds (hM : MH now n h) (hW : HW n h) {i : Nat} (hi : i < n) (post : Int32 → Prop) : (∃ zn, wl_X8_feeds_14 now (nI i) post zn 0 0) = post (nI (bm n (fun e => (leanS h e).testBit i))) := by
  have hn := hW.1
  refine lpG (σ := Int32 × Int32) (fun K x => wb_X8_feeds_14 now (nI i) post (fun u v => K (u, v)) x.1 x.2) (fun z x => wl_X8_feeds_14 now (nI i) post z x.1 x.2) (fun _ => rfl) (fun _ _ => rfl) n (fun k => (nI (bm k (fun e => (leanS h e).testBit i)), nI k)) _ (fun k K hk => ?_) (fun K => ?_)
  · have nk : ¬ n ≤ k := by omega
    have hl := leanS_lt hW hk
    show wb_X8_feeds_14 now (nI i) post (fun u v => K (u, v)) (nI (bm k (fun e => (leanS h e).testBit i))) (nI k) = K (nI (bm (k + 1) (fun e => (leanS h e).testBit i)), nI (k + 1))
    simp (disch := omega) only [wb_X8_feeds_14, hM.1, q_le, nk, e_leansOf hM hW, e_mhas, q_if0, q_sh, q_or, q_o0, nI_1]
    cases c : (leanS h k).testBit i <;> simp [bm, c]
  · show wb_X8_feeds_14 now (nI i) post (fun u v => K (u, v)) _ (nI n) = _
    simp (disch := omega) only [wb_X8_feeds_14, hM.1, q_le]
    simp
theorem s_feeds (hR : HR kinds whos toWhoms topics weights answered n h) (hM : MH now n h) (hW : HW n h) (i : Int32) : wp_X7_feeds answered (nI n) i (fun a => wp_X8_feeds now i (fun a' => a = a')) := by
  have hn := hW.1
  rcases pk_ix i (n := n) (by omega) with hi | hi | ⟨i, hi, rfl⟩
  · simp only [wp_X7_feeds, e_hasNumN hW (Or.inl hi), wp_X8_feeds, e_isSayingN hM hW (Or.inl hi)]
    simp
  · simp only [wp_X7_feeds, e_hasNumN hW (Or.inr hi), wp_X8_feeds, e_isSayingN hM hW (Or.inr hi)]
    simp
  · simp (disch := omega) only [wp_X7_feeds, e_hasNum, wp_X8_feeds, e_isSayingY hM hW, e_leaningOn hR hW, e_mfeeds hM hW, if_pos hi, n_1]
    simp
theorem s_first (hR : HR kinds whos toWhoms topics weights answered n h) (hM : MH now n h) (hW : HW n h) (la i : Int32) : wp_X7_first la answered (nI n) i (fun a lt => wp_X8_first now la i (fun a' as => a = a' ∧ lt = as)) := by
  have hn := hW.1
  rcases pk_ix i (n := n) (by omega) with hi | hi | ⟨i, hi, rfl⟩
  · simp only [wp_X7_first, e_hasNumN hW (Or.inl hi), wp_X8_first, e_isSayingN hM hW (Or.inl hi)]
    simp
  · simp only [wp_X7_first, e_hasNumN hW (Or.inr hi), wp_X8_first, e_isSayingN hM hW (Or.inr hi)]
    simp
  · have hl := leanS_lt hW hi
    simp (disch := omega) only [wp_X7_first, e_hasNum, wp_X8_first, e_isSayingY hM hW, e_leanedOn hR hW, e_leansOf hM hW, e_bc, e_mbits, e_beginningOf hR hW, e_rootOf hM hW, wp_X8_answer, if_pos hi, n_1]
    simp
theorem s_bundles (hR : HR kinds whos toWhoms topics weights answered n h) (hM : MH now n h) (hW : HW n h) (hs : s < 4096) (hs2 : now 2 = nI s) (la : Int32) : wp_X7_bundles answered (nI n) (nI s) (fun a lt => wp_X8_bundles now la (fun a' as => a = a' ∧ lt = as)) := by
  have hn := hW.1
  have hlt : ∀ k, k ≤ n → orM k (fun e => s.testBit e) (fun e => 2 ^ rootS h e) < 4096 := fun k hk => orM_lt (N := 12) fun e he _ => pw_lt (by have := root_lt hW (show e < n by omega); omega)
  have hl := hlt n (Nat.le_refl n)
  have key : ∀ post : Int32 → Int32 → Prop, wp_X8_bundles now la post = post (nI (pc (orM n (fun e => s.testBit e) (fun e => 2 ^ rootS h e)))) (nI (orM n (fun e => s.testBit e) (fun e => 2 ^ rootS h e))) := by
    intro post
    refine lpG (σ := Int32 × Int32 × Int32) (fun K x => wb_X8_bundles_4 now post (fun u v w => K (u, v, w)) x.1 x.2.1 x.2.2) (fun z x => wl_X8_bundles_4 now post z x.1 x.2.1 x.2.2) (fun _ => rfl) (fun _ _ => rfl) n (fun k => (la, nI (orM k (fun e => s.testBit e) (fun e => 2 ^ rootS h e)), nI k)) _ (fun k K hk => ?_) (fun K => ?_)
    · have nk : ¬ n ≤ k := by omega
      have hr := root_lt hW hk
      show wb_X8_bundles_4 now post (fun u v w => K (u, v, w)) la (nI (orM k (fun e => s.testBit e) (fun e => 2 ^ rootS h e))) (nI k) = K (la, nI (orM (k + 1) (fun e => s.testBit e) (fun e => 2 ^ rootS h e)), nI (k + 1))
      simp (disch := omega) only [wb_X8_bundles_4, hM.1, hs2, q_le, nk, e_mhas, q_if0, e_rootOf hM hW, q_sh, q_or, q_o0, nI_1]
      cases c : s.testBit k <;> simp [orM, c]
    · show wb_X8_bundles_4 now post (fun u v w => K (u, v, w)) la _ (nI n) = _
      simp (disch := omega) only [wb_X8_bundles_4, hM.1, q_le, e_mbits, wp_X8_answer]
      simp
  simp (disch := omega) only [wp_X7_bundles, e_beginningsOfSaid hR hW, e_bc, key]
  simp
theorem s_said (hR : HR kinds whos toWhoms topics weights answered n h) (hM : MH now n h) (hW : HW n h) (hs : s < 4096) (hs2 : now 2 = nI s) : wp_X7_said kinds answered (nI n) (nI s) (fun a lt => wp_X8_said now (fun a' as => a = a' ∧ lt = as)) := by
  simp (disch := omega) only [wp_X7_said, wp_X1_saidBits, e_freeAmong hR hW, wp_X8_said, hs2, e_allThatMay hM hW, wp_X8_answer]
  simp
theorem s_whose (hR : HR kinds whos toWhoms topics weights answered n h) (hM : MH now n h) (hW : HW n h) {of fs : Nat → Int32} {la fi : Int32} (hT : TL of la fs fi) (i : Int32) : wp_X7_whose kinds whos toWhoms answered (nI n) of la i (fun a of' la' => wp_X8_whose now fi fs i (fun a' fi' fs' => a = a' ∧ TL of' la' fs' fi')) := by
  have hn := hW.1
  rcases pk_ix i (n := n) (by omega) with hi | hi | ⟨i, hi, rfl⟩
  · simp only [wp_X7_whose, e_hasNumN hW (Or.inl hi), wp_X8_whose, e_isSayingN hM hW (Or.inl hi)]
    simp [hT]
  · simp only [wp_X7_whose, e_hasNumN hW (Or.inr hi), wp_X8_whose, e_isSayingN hM hW (Or.inr hi)]
    simp [hT]
  · have hb := hW.2 i hi
    obtain ⟨r0, r1, r2, r3, r4, r5⟩ := hM.2 i hi
    simp (disch := omega) only [wp_X7_whose, e_hasNum, wp_X8_whose, e_isSayingY hM hW, z_2, e_isOf hR hW, e_suspects hR hW, e_handsOf hM hW, z_3, nI_add, q_in, q_cl, r0, q_eq, e6_note, e8_found, if_pos hi, n_1]
    by_cases c : h 0 i = 2
    · simp [isOfB, c, hT]
    · simp [isOfB, c]
      exact hT.note (by omega) (by omega)
theorem e_mIsOf {own k : Nat} (ho : own < 6) (hk : k < 6) (h1 : 1 ≤ k) (post : Int32 → Prop) : wp_X8_isOf (nI own) (nI k) post = post (if isOfB own k = true then 1 else 0) := by
  simp (disch := omega) only [wp_X8_isOf, wb_X8_isOf_19, show (1 : Int32) = nI 1 from rfl, z_0, z_3, z_4, z_5, q_eq]
  have c0 : ¬ k = 0 := by omega
  by_cases c1 : own = k <;> by_cases c2 : k = 1 <;> by_cases c3 : k = 3 <;> by_cases c4 : own = 5 <;> by_cases c5 : own = 4 <;> simp [isOfB, c0, c1, c2, c3, c4, c5, ic1, ic2] <;> first | rfl | omega | (simp_all; done)
theorem e_malike (hM : MH now n h) (hW : HW n h) {fi : Int32} {fs : Nat → Int32} {i : Nat} (hi : i < n) (post : Int32 → Int32 → (Nat → Int32) → Prop) : (∃ zn, wl_X8_mark_150 now (nI i) post zn fi fs 0 0) = post (nI (cn n (fun e => rootS h e == rootS h i && h 3 e == h 3 i))) fi fs := by
  have hn := hW.1
  have hri := root_lt hW hi
  have hbi := hW.2 i hi
  obtain ⟨q0, q1, q2, q3, q4, q5⟩ := hM.2 i hi
  refine lpG (σ := Int32 × (Nat → Int32) × Int32 × Int32) (fun K x => wb_X8_mark_150 now (nI i) post (fun a b c d => K (a, b, c, d)) x.1 x.2.1 x.2.2.1 x.2.2.2) (fun z x => wl_X8_mark_150 now (nI i) post z x.1 x.2.1 x.2.2.1 x.2.2.2) (fun _ => rfl) (fun _ _ => rfl) n (fun k => (fi, fs, nI (cn k (fun e => rootS h e == rootS h i && h 3 e == h 3 i)), nI k)) _ (fun k K hk => ?_) (fun K => ?_)
  · have nk : ¬ n ≤ k := by omega
    have hr := root_lt hW hk
    have hb := hW.2 k hk
    obtain ⟨r0, r1, r2, r3, r4, r5⟩ := hM.2 k hk
    show wb_X8_mark_150 now (nI i) post (fun a b c d => K (a, b, c, d)) fi fs (nI (cn k (fun e => rootS h e == rootS h i && h 3 e == h 3 i))) (nI k) = K (fi, fs, nI (cn (k + 1) (fun e => rootS h e == rootS h i && h 3 e == h 3 i)), nI (k + 1))
    simp (disch := omega) only [wb_X8_mark_150, hM.1, q_le, nk, e_rootOf hM hW, q_eq, z_39, nI_add, q_in, q_cl, r3, q3, q_a0, nI_1]
    by_cases c1 : rootS h k = rootS h i <;> by_cases c2 : h 3 k = h 3 i <;> simp [cn, c1, c2]
  · show wb_X8_mark_150 now (nI i) post (fun a b c d => K (a, b, c, d)) fi fs _ (nI n) = _
    simp (disch := omega) only [wb_X8_mark_150, hM.1, q_le]
    simp
theorem s_mark (hR : HR kinds whos toWhoms topics weights answered n h) (hM : MH now n h) (hW : HW n h) (hs : s < 4096) (hs2 : now 2 = nI s) {of fs : Nat → Int32} {la fi : Int32} (hT : TL of la fs fi) (i k : Int32) : wp_X7_mark kinds whos toWhoms topics weights answered (nI n) (nI s) of la i k (fun a of' la' => wp_X8_mark now fi fs i k (fun a' fi' fs' => a = a' ∧ TL of' la' fs' fi')) := by
  have hn := hW.1
  rcases pk_ix i (n := n) (by omega) with hi | hi | ⟨i, hi, rfl⟩
  · simp only [wp_X7_mark, e_hasNumN hW (Or.inl hi), wp_X8_mark, e_isSayingN hM hW (Or.inl hi)]
    simp [hT]
  · simp only [wp_X7_mark, e_hasNumN hW (Or.inr hi), wp_X8_mark, e_isSayingN hM hW (Or.inr hi)]
    simp [hT]
  have hb := hW.2 i hi
  obtain ⟨r0, r1, r2, r3, r4, r5⟩ := hM.2 i hi
  obtain ⟨p0, p1, p2, p3, p4, p5⟩ := hR i hi
  have yb : (5 : Int64) = (nI 5).toInt64 := y_5
  rcases pk_ix k (n := 6) (by decide) with hk | hk | ⟨k, hk, rfl⟩
  · have h1 : k ≤ 0 := Int32.le_of_lt hk
    have h2 : k < 1 := Int32.lt_of_lt_of_le hk (by decide)
    simp (disch := omega) only [wp_X7_mark, e_hasNum, wp_X8_mark, e_isSayingY hM hW, if_pos hi, n_1, yb, y_1, e_in, h1, h2]
    simp [hT]
  · have h1 : ¬ k ≤ 0 := Int32.not_le.mpr (Int32.lt_of_lt_of_le (by decide) hk)
    have h2 : ¬ k < nI 6 := Int32.not_lt.mpr hk
    have h3 : nI 5 < k := Int32.lt_of_lt_of_le (by decide) hk
    simp (disch := omega) only [wp_X7_mark, e_hasNum, wp_X8_mark, e_isSayingY hM hW, if_pos hi, n_1, yb, y_1, e_in, z_6, h1, h2, h3]
    simp [hT]
  by_cases k0 : k = 0
  · subst k0
    have h1 : nI 0 ≤ 0 := by decide
    have h2 : nI 0 < (1 : Int32) := by decide
    simp (disch := omega) only [wp_X7_mark, e_hasNum, wp_X8_mark, e_isSayingY hM hW, if_pos hi, n_1, yb, y_1, e_in, h1, h2]
    simp [hT]
  have h1 : ¬ nI k ≤ 0 := nI_nle (by omega) (by omega)
  have hsus := susp_lt hW hi
  have ob : bm n (fun e => oth h i e && (2 ^ i - 1).testBit e) < 4096 := bm_le n _ (N := 12) hn
  have ab : bm n (fun e => ansB h i e && s.testBit e) < 4096 := bm_le n _ (N := 12) hn
  have hp2 : 2 ^ i < 4096 := pw_lt (n := 12) (by omega)
  have hp1 : 1 ≤ 2 ^ i := Nat.one_le_two_pow
  have e1 : nI (2 ^ i) - 1 = nI (2 ^ i - 1) := pk_sub (a := 2 ^ i) (b := 1) hp1
  have e2 : cn n (fun e => ansB h i e && s.testBit e) = nAns n h s i := cn_congr fun e _ => Bool.and_comm _ _
  cases c : isOfB (h 0 i) k with
  | false =>
    simp (disch := omega) only [wp_X7_mark, e_hasNum, wp_X8_mark, e_isSayingY hM hW, if_pos hi, n_1, yb, e_inYc, z_6, q_ltI, hk, h1, e_isOf hR hW, z_3, nI_add, q_in, q_cl, r0, e_mIsOf, c, e6_note, e8_found]
    simp
    exact hT.note (by omega) (by omega)
  | true =>
    have hk5 : k = 1 ∨ k = 2 ∨ k = 3 ∨ k = 4 ∨ k = 5 := by omega
    have t1 : (nI 1 = 1) = True := by decide
    have t2 : ∀ a b : Int32, (decide (a = b) = true) → (a = b) = True := fun a b h => eq_true (of_decide_eq_true h)
    have m2 : (nI 1 = 2) = False := by decide
    have e3 : heatS n h (2 ^ i - 1) i = cn n (fun e => oth h i e && (2 ^ i - 1).testBit e) := rfl
    rcases hk5 with rfl | rfl | rfl | rfl | rfl
    · simp (disch := omega) only [wp_X7_mark, e_hasNum, wp_X8_mark, e_isSayingY hM hW, if_pos hi, n_1, yb, e_inYc, z_6, q_ltI, hk, h1, e_isOf hR hW, e_others hR hW, wp_X7_bitsBelow, e_bit, e1, q_and, and_bm, e_bc, pc_bm, z_3, nI_add, q_in, q_cl, r0, e_mIsOf, c, q_sh, e_mheat hM hW, e3]
      simp [hT, show nI 1 = 1 from rfl, show nI 3 = 3 from rfl]
    · simp (disch := omega) only [wp_X7_mark, e_hasNum, wp_X8_mark, e_isSayingY hM hW, if_pos hi, n_1, yb, e_inYc, z_6, q_ltI, hk, h1, e_isOf hR hW, e_suspects hR hW, e_bc, z_3, nI_add, q_in, q_cl, r0, e_mIsOf, c, e_handsOf hM hW, e_mbits]
      simp [hT, show nI 2 = 2 from rfl, show nI 3 = 3 from rfl]
    · simp (disch := omega) only [wp_X7_mark, e_hasNum, wp_X8_mark, e_isSayingY hM hW, if_pos hi, n_1, yb, e_inYc, z_6, q_ltI, hk, h1, e_isOf hR hW, e_priceNow hR hW, e_heatNow hR hW, wp_X1_weightOf, p4, z_51, nI_add, q_in, q_cl, r0, r4, e_mIsOf, c, hs2, e_mprice hM hW, e_mheat hM hW, z_3]
      simp [hT, show nI 3 = 3 from rfl]
    · simp (disch := omega) only [wp_X7_mark, e_hasNum, wp_X8_mark, e_isSayingY hM hW, if_pos hi, n_1, yb, e_inYc, z_6, q_ltI, hk, h1, e_isOf hR hW, e_answerers hR hW, wp_X1_saidBits, q_and, and_bm, e_bc, pc_bm, z_3, nI_add, q_in, q_cl, r0, e_mIsOf, c, hs2, e_answering hM hW, e2]
      simp [hT, show nI 4 = 4 from rfl, show nI 3 = 3 from rfl]
    · simp (disch := omega) only [wp_X7_mark, e_hasNum, wp_X8_mark, e_isSayingY hM hW, if_pos hi, n_1, yb, e_inYc, z_6, q_ltI, hk, h1, e_isOf hR hW, e_alikeInBundle hR hW, z_3, nI_add, q_in, q_cl, r0, e_mIsOf, c, e_malike hM hW]
      simp [hT, show nI 5 = 5 from rfl, show nI 3 = 3 from rfl]
end HE
