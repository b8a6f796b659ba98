/-! lots -/
theorem l_i {q : Nat} (hq : q < 2 ^ 31) : (lN q).toInt32 = nI q := by
  rw [← nI_l (by omega), lg_l2i_i2l]
theorem tb_lt {n i s : Nat} (hs : s < 2 ^ n) (h : s.testBit i = true) : i < n := by
  rcases Nat.lt_or_ge i n with hh | hh
  · exact hh
  · rw [lt_tb hs hh] at h; exact absurd h (by simp)
theorem e_draw {t p : Nat} (ht : t < 4096) (hp : p < pc t) (K47 : (Nat → Int32) → Int64 → Int32 → Int32 → Int32 → Prop) (now : Nat → Int32) (x3 : Int64) (x5 x7 : Int32) : (∃ zn, wl_X8_lots_93 K47 zn now x3 x5 (nI t) x7 (nI p) 0) = wp_X8_unsays now (nI (nth t p)) (fun r7 now_8 => wp_X8_allThatMay now_8 (now_8 2) (fun r9 => K47 now_8 x3 (x5 + r7) r9 (x7 + 1))) := by
  obtain ⟨hl, hb, hc⟩ := nth_lt hp
  have hpl := pc_le t
  have e0 : p - cn 0 (fun e => t.testBit e) = p := by simp [cn]
  have q := lpG (σ := (Nat → Int32) × Int64 × Int32 × Int32 × Int32 × Int32 × Int32) (fun K x => wb_X8_lots_93 K47 (fun a b c d e f g => K (a, b, c, d, e, f, g)) x.1 x.2.1 x.2.2.1 x.2.2.2.1 x.2.2.2.2.1 x.2.2.2.2.2.1 x.2.2.2.2.2.2) (fun z x => wl_X8_lots_93 K47 z x.1 x.2.1 x.2.2.1 x.2.2.2.1 x.2.2.2.2.1 x.2.2.2.2.2.1 x.2.2.2.2.2.2) (fun _ => rfl) (fun _ _ => rfl) (nth t p) (fun k => (now, x3, x5, nI t, x7, nI (p - cn k (fun e => t.testBit e)), nI k)) (wp_X8_unsays now (nI (nth t p)) (fun r7 now_8 => wp_X8_allThatMay now_8 (now_8 2) (fun r9 => K47 now_8 x3 (x5 + r7) r9 (x7 + 1)))) ?_ ?_
  · rw [e0] at q
    exact q
  · intro k K hk
    have hm : cn k (fun e => t.testBit e) ≤ p := by rw [← hc]; exact cn_mono (by omega)
    show wb_X8_lots_93 K47 (fun a b c d e f g => K (a, b, c, d, e, f, g)) now x3 x5 (nI t) x7 (nI (p - cn k (fun e => t.testBit e))) (nI k) = K (now, x3, x5, nI t, x7, nI (p - cn (k + 1) (fun e => t.testBit e)), nI (k + 1))
    simp (disch := omega) only [wb_X8_lots_93, wb_X8_lots_108, e_mhas, q_if0, z_0, q_le, nI_1]
    cases c : t.testBit k with
    | false =>
      have e1 : cn (k + 1) (fun e => t.testBit e) = cn k (fun e => t.testBit e) := cn_s0 (P := fun e => t.testBit e) c
      have e2 : nI (p - cn k (fun e => t.testBit e)) - nI 0 = nI (p - cn k (fun e => t.testBit e)) := pk_sub (a := _) (b := 0) (by omega)
      rw [e1, e2]
      simp
    | true =>
      have e1 : cn (k + 1) (fun e => t.testBit e) = cn k (fun e => t.testBit e) + 1 := cn_s1 (P := fun e => t.testBit e) c
      have h2 : cn k (fun e => t.testBit e) < p := by rw [← hc]; exact cn_strict hk c
      have h3 : ¬ p - cn k (fun e => t.testBit e) ≤ 0 := by omega
      have e2 : nI (p - cn k (fun e => t.testBit e)) - 1 = nI (p - (cn k (fun e => t.testBit e) + 1)) := by
        rw [show (1 : Int32) = nI 1 from rfl, pk_sub (a := p - cn k (fun e => t.testBit e)) (b := 1) (by omega)]
        congr 1
      rw [e1, e2]
      simp [h3, show nI 0 = 0 from rfl]
  · intro K
    show wb_X8_lots_93 K47 (fun a b c d e f g => K (a, b, c, d, e, f, g)) now x3 x5 (nI t) x7 (nI (p - cn (nth t p) (fun e => t.testBit e))) (nI (nth t p)) = _
    rw [hc, Nat.sub_self]
    simp (disch := omega) only [wb_X8_lots_93, e_mhas, q_if0, hb, z_0, q_le]
    simp [show nI 0 = 0 from rfl]
section HE9
variable {kinds whos toWhoms topics weights answered : Nat → Int32} {h : Nat → Nat → Nat}
theorem frees_lt {n : Nat} (hn : n ≤ 12) (h : Nat → Nat → Nat) (s : Nat) : frees n h s < 2 ^ n := bm_lt n _
theorem e_lots {N : Nat} (hN : N ≤ 12) : ∀ d k deeds now n s dn x c, k + d = N → x < 2147483647 → HP kinds whos toWhoms topics weights answered deeds now n s dn h → ∃ a deeds' now' s' dn', HP kinds whos toWhoms topics weights answered deeds' now' n s' dn' h ∧ (∀ post, (∃ z, wl_X7_lots_36 kinds whos toWhoms topics weights answered (nI n) (nI N) post z deeds (nI s) (nI dn) (lN x) c (nI k)) = post a deeds' (nI s') (nI dn')) ∧ (∀ post, (∃ z, wl_X8_lots_47 (nI N) post z now (lN x) c (nI (frees n h s)) (nI k)) = post a now') := by
  intro d
  induction d with
  | zero =>
    intro k deeds now n s dn x c hk hx hP
    have hk : k = N := by omega
    subst hk
    refine ⟨c, deeds, now, s, dn, hP, fun post => ?_, fun post => ?_⟩
    · refine lp_en (σ := (Nat → Int32) × Int32 × Int32 × Int64 × Int32 × Int32) (fun K x => wb_X7_lots_36 kinds whos toWhoms topics weights answered (nI n) (nI k) post (fun a b c d e f => K (a, b, c, d, e, f)) x.1 x.2.1 x.2.2.1 x.2.2.2.1 x.2.2.2.2.1 x.2.2.2.2.2) (fun z x => wl_X7_lots_36 kinds whos toWhoms topics weights answered (nI n) (nI k) post z x.1 x.2.1 x.2.2.1 x.2.2.2.1 x.2.2.2.2.1 x.2.2.2.2.2) (fun _ => rfl) (fun _ _ => rfl) (x := (deeds, nI s, nI dn, lN x, c, nI k)) (fun K => ?_)
      show wb_X7_lots_36 kinds whos toWhoms topics weights answered (nI n) (nI k) post (fun a b c d e f => K (a, b, c, d, e, f)) deeds (nI s) (nI dn) (lN x) c (nI k) = _
      simp (disch := omega) only [wb_X7_lots_36, q_le]
      simp
    · refine lp_en (σ := (Nat → Int32) × Int64 × Int32 × Int32 × Int32) (fun K x => wb_X8_lots_47 (nI k) post (fun a b c d e => K (a, b, c, d, e)) x.1 x.2.1 x.2.2.1 x.2.2.2.1 x.2.2.2.2) (fun z x => wl_X8_lots_47 (nI k) post z x.1 x.2.1 x.2.2.1 x.2.2.2.1 x.2.2.2.2) (fun _ => rfl) (fun _ _ => rfl) (x := (now, lN x, c, nI (frees n h s), nI k)) (fun K => ?_)
      show wb_X8_lots_47 (nI k) post (fun a b c d e => K (a, b, c, d, e)) now (lN x) c (nI (frees n h s)) (nI k) = _
      simp (disch := omega) only [wb_X8_lots_47, q_le]
      simp
  | succ d ih =>
    intro k deeds now n s dn x c hk hx hP
    have hs4 := hP.s4
    have hP' := hP
    obtain ⟨hR, hM, hW, hs, hd40, h1, h2, hD⟩ := hP
    have hn := hW.1
    have nk : ¬ N ≤ k := by omega
    have hf := frees_lt hn h s
    have hf4 : frees n h s < 4096 := Nat.lt_of_lt_of_le hf (Nat.pow_le_pow_right (by decide) hn)
    by_cases stop : frees n h s = 0 ∨ dn = 40
    · refine ⟨c, deeds, now, s, dn, hP', fun post => ?_, fun post => ?_⟩
      · refine lp_en (σ := (Nat → Int32) × Int32 × Int32 × Int64 × Int32 × Int32) (fun K x => wb_X7_lots_36 kinds whos toWhoms topics weights answered (nI n) (nI N) post (fun a b c d e f => K (a, b, c, d, e, f)) x.1 x.2.1 x.2.2.1 x.2.2.2.1 x.2.2.2.2.1 x.2.2.2.2.2) (fun z x => wl_X7_lots_36 kinds whos toWhoms topics weights answered (nI n) (nI N) post z x.1 x.2.1 x.2.2.1 x.2.2.2.1 x.2.2.2.2.1 x.2.2.2.2.2) (fun _ => rfl) (fun _ _ => rfl) (x := (deeds, nI s, nI dn, lN x, c, nI k)) (fun K => ?_)
        show wb_X7_lots_36 kinds whos toWhoms topics weights answered (nI n) (nI N) post (fun a b c d e f => K (a, b, c, d, e, f)) deeds (nI s) (nI dn) (lN x) c (nI k) = _
        simp (disch := omega) only [wb_X7_lots_36, q_le, nk, wp_X1_saidBits, e_freeAmong hR hW, z_0, q_eq, e_full hd40]
        rcases stop with e | e <;> by_cases c1 : frees n h s = 0 <;> simp [e, c1, show nI 0 = 0 from rfl] <;> simp_all
      · refine lp_en (σ := (Nat → Int32) × Int64 × Int32 × Int32 × Int32) (fun K x => wb_X8_lots_47 (nI N) post (fun a b c d e => K (a, b, c, d, e)) x.1 x.2.1 x.2.2.1 x.2.2.2.1 x.2.2.2.2) (fun z x => wl_X8_lots_47 (nI N) post z x.1 x.2.1 x.2.2.1 x.2.2.2.1 x.2.2.2.2) (fun _ => rfl) (fun _ _ => rfl) (x := (now, lN x, c, nI (frees n h s), nI k)) (fun K => ?_)
        show wb_X8_lots_47 (nI N) post (fun a b c d e => K (a, b, c, d, e)) now (lN x) c (nI (frees n h s)) (nI k) = _
        simp (disch := omega) only [wb_X8_lots_47, q_le, nk, z_0, q_eq, h1, z_40]
        rcases stop with e | e <;> by_cases c1 : frees n h s = 0 <;> simp [e, c1, show nI 0 = 0 from rfl] <;> simp_all
    · have f0 : frees n h s ≠ 0 := fun e => stop (Or.inl e)
      have d40 : ¬ dn = 40 := fun e => stop (Or.inr e)
      have hd : dn < 40 := by omega
      have d41 : ¬ 40 ≤ dn := by omega
      have p0 : 0 < pc (frees n h s) := by
        have : pc (frees n h s) ≠ 0 := fun e => f0 ((pc_eq0 hf4).mp e)
        omega
      have pl := pc_le (frees n h s)
      have hy : x * 48271 % 2147483647 < 2147483647 := Nat.mod_lt _ (by decide)
      have hxm : x * 48271 < 2 ^ 60 := by omega
      have hq : x * 48271 % 2147483647 % pc (frees n h s) < pc (frees n h s) := Nat.mod_lt _ p0
      have er : ((lN (x * 48271 % 2147483647) - lN (x * 48271 % 2147483647) / lN (pc (frees n h s)) * lN (pc (frees n h s))).toInt32) = nI (x * 48271 % 2147483647 % pc (frees n h s)) := by
        rw [l_rem (Nat.lt_trans hy (by decide)) (by omega), l_i (by omega)]
      have es : lN (x * 48271) - lN (x * 48271) / lN 2147483647 * lN 2147483647 = lN (x * 48271 % 2147483647) := l_rem (by omega) (by omega)
      obtain ⟨j1, j2, j3⟩ := nth_lt hq
      generalize hi : nth (frees n h s) (x * 48271 % 2147483647 % pc (frees n h s)) = i at *
      have hin : i < n := tb_lt hf j2
      have hU := hP'.un hin hd
      have hMU := hU.2.1
      have hsU := hU.s4
      have h2U := hU.2.2.2.2.2.2.1
      obtain ⟨a, deeds', now', s', dn', w1, w2, w3⟩ := ih (k + 1) (upd deeds dn (nI i)) (unN now s dn i) n (clr s i) (dn + 1) (x * 48271 % 2147483647) (c + nI (priceS n h s i)) (by omega) hy hU
      have em : (48271 : Int64) = lN 48271 := rfl
      have eM : (2147483647 : Int64) = lN 2147483647 := rfl
      have en : (lN (pc (frees n h s)) = 0) = False := by rw [l_eq0 (by omega)]; exact eq_false (by omega)
      refine ⟨a, deeds', now', s', dn', w1, fun post => ?_, fun post => ?_⟩
      · rw [← w2 post]
        refine lp_st (σ := (Nat → Int32) × Int32 × Int32 × Int64 × Int32 × Int32) (fun K x => wb_X7_lots_36 kinds whos toWhoms topics weights answered (nI n) (nI N) post (fun a b c d e f => K (a, b, c, d, e, f)) x.1 x.2.1 x.2.2.1 x.2.2.2.1 x.2.2.2.2.1 x.2.2.2.2.2) (fun z x => wl_X7_lots_36 kinds whos toWhoms topics weights answered (nI n) (nI N) post z x.1 x.2.1 x.2.2.1 x.2.2.2.1 x.2.2.2.2.1 x.2.2.2.2.2) (fun _ => rfl) (fun _ _ => rfl) (x := (deeds, nI s, nI dn, lN x, c, nI k)) (y := (upd deeds dn (nI i), nI (clr s i), nI (dn + 1), lN (x * 48271 % 2147483647), c + nI (priceS n h s i), nI (k + 1))) (fun K => ?_)
        show wb_X7_lots_36 kinds whos toWhoms topics weights answered (nI n) (nI N) post (fun a b c d e f => K (a, b, c, d, e, f)) deeds (nI s) (nI dn) (lN x) c (nI k) = K (upd deeds dn (nI i), nI (clr s i), nI (dn + 1), lN (x * 48271 % 2147483647), c + nI (priceS n h s i), nI (k + 1))
        simp (disch := omega) only [wb_X7_lots_36, q_le, nk, wp_X1_saidBits, e_freeAmong hR hW, z_0, q_eq, f0, e_full hd40, d40, e_bc, nI_l, em, eM, lN_mul, es, er, en, e_numberAt hf4 hq, hi, e_takeBack hP' hin hd, nI_1]
        simp
      · rw [← w3 post]
        refine lp_st (σ := (Nat → Int32) × Int64 × Int32 × Int32 × Int32) (fun K x => wb_X8_lots_47 (nI N) post (fun a b c d e => K (a, b, c, d, e)) x.1 x.2.1 x.2.2.1 x.2.2.2.1 x.2.2.2.2) (fun z x => wl_X8_lots_47 (nI N) post z x.1 x.2.1 x.2.2.1 x.2.2.2.1 x.2.2.2.2) (fun _ => rfl) (fun _ _ => rfl) (x := (now, lN x, c, nI (frees n h s), nI k)) (y := (unN now s dn i, lN (x * 48271 % 2147483647), c + nI (priceS n h s i), nI (frees n h (clr s i)), nI (k + 1))) (fun K => ?_)
        show wb_X8_lots_47 (nI N) post (fun a b c d e => K (a, b, c, d, e)) now (lN x) c (nI (frees n h s)) (nI k) = K (unN now s dn i, lN (x * 48271 % 2147483647), c + nI (priceS n h s i), nI (frees n h (clr s i)), nI (k + 1))
        have dr := e_draw hf4 hq (fun a b c d e => K (a, b, c, d, e)) now (lN (x * 48271 % 2147483647)) c (nI k)
        rw [hi] at dr
        simp (disch := omega) only [wb_X8_lots_47, q_le, nk, show (nI (frees n h s) = 0) = False from by rw [z_0, q_eq (by omega) (by omega)]; simp [f0], h1, z_40, d41, e_mbits, nI_l, em, eM, lN_mul, Nat.mul_comm 48271 x, es, er, en, dr, e_unsays hP' hin hd, h2U, e_allThatMay hMU hW hsU, nI_1]
        simp
theorem s_lots {deeds now : Nat → Int32} {n s dn : Nat} (hP : HP kinds whos toWhoms topics weights answered deeds now n s dn h) (N seed : Int32) : wp_X7_lots kinds whos toWhoms topics weights answered deeds (nI n) (nI s) (nI dn) N seed (fun a deeds' sB dC => wp_X8_lots now N seed (fun a' now' => a = a' ∧ ∃ s' dn', sB = nI s' ∧ dC = nI dn' ∧ HP kinds whos toWhoms topics weights answered deeds' now' n s' dn' h)) := by
  have hs4 := hP.s4
  have hP' := hP
  obtain ⟨hR, hM, hW, hs, hd40, h1, h2, hD⟩ := hP
  have hn := hW.1
  have same : ∃ s' dn', nI s = nI s' ∧ nI dn = nI dn' ∧ HP kinds whos toWhoms topics weights answered deeds now n s' dn' h := ⟨s, dn, rfl, rfl, hP'⟩
  have y12 : (12 : Int64) = (nI 12).toInt64 := by decide
  have yM : (2147483646 : Int64) = (nI 2147483646).toInt64 := by decide
  have yS : (2147483647 : Int64) = (nI 2147483647).toInt64 := by decide
  rcases pk_ix N (n := 13) (by decide) with hN | hN | ⟨N, hN, rfl⟩
  · have g : N < 1 := Int32.lt_trans hN (by decide)
    simp only [wp_X7_lots, g, wp_X8_lots, y_1, y12, e_in]
    simpa using same
  · have g1 : ¬ N < 1 := Int32.not_lt.mpr (Int32.le_trans (by decide) hN)
    have g2 : 12 < N := Int32.lt_of_lt_of_le (by decide) hN
    have g3 : nI 12 < N := g2
    simp only [wp_X7_lots, g1, g2, wp_X8_lots, y_1, y12, e_in, g3]
    simpa using same
  by_cases N0 : N = 0
  · subst N0
    have g : nI 0 < (1 : Int32) := by decide
    simp only [wp_X7_lots, g, wp_X8_lots, y_1, y12, e_in]
    simpa using same
  have g1 : ¬ nI N < (1 : Int32) := by
    show ¬ nI N < nI 1
    rw [q_ltI (by omega) (by omega)]; omega
  have g2 : ¬ (12 : Int32) < nI N := by
    show ¬ nI 12 < nI N
    rw [q_ltI (by omega) (by omega)]; omega
  rcases pk_ix seed (n := 2147483647) (by decide) with hx | hx | ⟨x, hx, rfl⟩
  · have g : seed < 1 := Int32.lt_trans hx (by decide)
    simp (disch := omega) only [wp_X7_lots, g1, g2, g, wp_X8_lots, y12, e_inYc, n_1]
    simp only [y_1, yM, e_in, g]
    simpa using same
  · have g3 : ¬ seed < 1 := Int32.not_lt.mpr (Int32.le_trans (by decide) hx)
    have g4 : nI 2147483646 < seed := Int32.lt_of_lt_of_le (by decide) hx
    have g5 : ¬ seed < nI 2147483647 := Int32.not_lt.mpr hx
    simp (disch := omega) only [wp_X7_lots, g1, g2, g3, wp_X8_lots, y12, e_inYc, n_1, c_lt, yS, w_lt, g5]
    simp only [y_1, yM, e_in, g4]
    simpa using same
  by_cases x0 : x = 0
  · subst x0
    have g : nI 0 < (1 : Int32) := by decide
    simp (disch := omega) only [wp_X7_lots, g1, g2, g, wp_X8_lots, y12, e_inYc, n_1]
    simp only [y_1, yM, e_in, g]
    simpa using same
  · have g3 : ¬ nI x < (1 : Int32) := by
      show ¬ nI x < nI 1
      rw [q_ltI (by omega) (by omega)]; omega
    obtain ⟨a, deeds', now', s', dn', w1, w2, w3⟩ := e_lots (N := N) (by omega) N 0 deeds now n s dn x 0 (by omega) hx hP'
    simp (disch := omega) only [wp_X7_lots, g1, g2, g3, wp_X8_lots, y12, e_inYc, n_1, c_lt, yS, w_lt, q_ltI, hx, yM, h2, e_allThatMay hM hW hs4]
    rw [show nI 0 = 0 from rfl] at w2 w3
    rw [nI_l (by omega)]
    simp only [w2, w3]
    simp
    exact ⟨s', rfl, dn', rfl, w1⟩
end HE9
