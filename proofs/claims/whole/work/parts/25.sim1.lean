/-! row, lay, at, tear, mean, text, put: the class answers as the reference -/
theorem neg_le {x : Int32} (h : x < 0) {b : Nat} (hb : b < 2 ^ 31) : x ≤ nI b := Int32.le_of_lt (Int32.lt_of_lt_of_le h (nI_pos' hb))
theorem neg_np {x : Int32} (h : x < 0) : ¬ 0 ≤ x := Int32.not_le.mpr h
theorem big_nle {x : Int32} {b : Nat} (hb : b < 2 ^ 30) (h : nI (b + 1) ≤ x) : ¬ x ≤ nI b := Int32.not_le.mpr (q_lt_of_le hb h)
theorem e8_row {rS rw fs : Nat → Int32} {fi : Int32} {r n : Nat} (hr : r < 6) (hn : n ≤ 40) (post : Int32 → (Nat → Int32) → (Nat → Int32) → Int32 → (Nat → Int32) → Prop) : wp_X8_row rS rw fi fs (nI r) (nI n) post = post (nI n) (upd rS r (nI n)) (fun j => if 40 * r ≤ j ∧ j < 40 * r + 40 then 0 else rw j) fi fs := by
  have hl := lpG (σ := (Nat → Int32) × (Nat → Int32) × Int32 × (Nat → Int32) × Int32) (fun K x => wb_X8_row_34 (nI r) (nI n) post (fun a b c d e => K (a, b, c, d, e)) x.1 x.2.1 x.2.2.1 x.2.2.2.1 x.2.2.2.2) (fun z x => wl_X8_row_34 (nI r) (nI n) post z x.1 x.2.1 x.2.2.1 x.2.2.2.1 x.2.2.2.2) (fun _ => rfl) (fun _ _ => rfl) 40 (fun k => (upd rS r (nI n), (fun j => if 40 * r ≤ j ∧ j < 40 * r + k then 0 else rw j), fi, fs, nI k)) (post (nI n) (upd rS r (nI n)) (fun j => if 40 * r ≤ j ∧ j < 40 * r + 40 then 0 else rw j) fi fs) (fun k K hk => ?_) (fun K => ?_)
  · have e0 : (fun j => if 40 * r ≤ j ∧ j < 40 * r then (0 : Int32) else rw j) = rw := by
      funext j; rw [if_neg (by omega)]
    simp only [Nat.add_zero, e0] at hl
    unfold wp_X8_row
    rw [e8_rowY hr]
    have hl' : (∃ zn, wl_X8_row_34 (nI r) (nI n) post zn (upd rS r (nI n)) rw fi fs 0) = _ := hl
    have h0 : (0 : Int32) ≤ nI n := nI_pos' (by omega)
    simp (disch := omega) only [z_40, q_le, hn, h0, q_in, q_cl, hl']
    simp
  · have c : ¬ 40 ≤ k := by omega
    show wb_X8_row_34 (nI r) (nI n) post (fun a b c d e => K (a, b, c, d, e)) (upd rS r (nI n)) (fun j => if 40 * r ≤ j ∧ j < 40 * r + k then 0 else rw j) fi fs (nI k) = K (upd rS r (nI n), (fun j => if 40 * r ≤ j ∧ j < 40 * r + (k + 1) then 0 else rw j), fi, fs, nI (k + 1))
    simp (disch := omega) only [wb_X8_row_34, z_40, pk_mul, nI_add, q_le, q_in, q_cl, nI_1, c]
    have e1 : upd (fun j => if 40 * r ≤ j ∧ j < 40 * r + k then (0 : Int32) else rw j) (40 * r + k) 0 = fun j => if 40 * r ≤ j ∧ j < 40 * r + (k + 1) then 0 else rw j := by
      funext j
      show (if j = 40 * r + k then (0 : Int32) else (if 40 * r ≤ j ∧ j < 40 * r + k then 0 else rw j)) = (if 40 * r ≤ j ∧ j < 40 * r + (k + 1) then 0 else rw j)
      by_cases h1 : j = 40 * r + k
      · rw [if_pos h1, if_pos (by omega)]
      · rw [if_neg h1]
        by_cases h2 : 40 * r ≤ j ∧ j < 40 * r + k
        · rw [if_pos h2, if_pos (by omega)]
        · rw [if_neg h2, if_neg (by omega)]
    rw [e1]
    simp
  · show wb_X8_row_34 (nI r) (nI n) post (fun a b c d e => K (a, b, c, d, e)) (upd rS r (nI n)) (fun j => if 40 * r ≤ j ∧ j < 40 * r + 40 then 0 else rw j) fi fs (nI 40) = _
    simp (disch := omega) only [wb_X8_row_34, z_40, q_le]
    simp
theorem e8_text {rS rw fs : Nat → Int32} {fi : Int32} {r n : Nat} (hr : r < 4) (hn : n ≤ 80) (post : Int32 → (Nat → Int32) → (Nat → Int32) → Int32 → (Nat → Int32) → Prop) : wp_X8_text rS rw fi fs (nI r) (nI n) post = post (nI n) (upd rS r (nI n)) (fun j => if 80 * r ≤ j ∧ j < 80 * r + 80 then 32 else rw j) fi fs := by
  have hl := lpG (σ := (Nat → Int32) × (Nat → Int32) × Int32 × (Nat → Int32) × Int32) (fun K x => wb_X8_text_34 (nI r) (nI n) post (fun a b c d e => K (a, b, c, d, e)) x.1 x.2.1 x.2.2.1 x.2.2.2.1 x.2.2.2.2) (fun z x => wl_X8_text_34 (nI r) (nI n) post z x.1 x.2.1 x.2.2.1 x.2.2.2.1 x.2.2.2.2) (fun _ => rfl) (fun _ _ => rfl) 80 (fun k => (upd rS r (nI n), (fun j => if 80 * r ≤ j ∧ j < 80 * r + k then 32 else rw j), fi, fs, nI k)) (post (nI n) (upd rS r (nI n)) (fun j => if 80 * r ≤ j ∧ j < 80 * r + 80 then 32 else rw j) fi fs) (fun k K hk => ?_) (fun K => ?_)
  · have e0 : (fun j => if 80 * r ≤ j ∧ j < 80 * r then (32 : Int32) else rw j) = rw := by
      funext j; rw [if_neg (by omega)]
    simp only [Nat.add_zero, e0] at hl
    unfold wp_X8_text
    rw [e8_textY hr]
    have hl' : (∃ zn, wl_X8_text_34 (nI r) (nI n) post zn (upd rS r (nI n)) rw fi fs 0) = _ := hl
    have h0 : (0 : Int32) ≤ nI n := nI_pos' (by omega)
    simp (disch := omega) only [z_80, q_le, hn, h0, q_in, q_cl, hl']
    simp
  · have c : ¬ 80 ≤ k := by omega
    show wb_X8_text_34 (nI r) (nI n) post (fun a b c d e => K (a, b, c, d, e)) (upd rS r (nI n)) (fun j => if 80 * r ≤ j ∧ j < 80 * r + k then 32 else rw j) fi fs (nI k) = K (upd rS r (nI n), (fun j => if 80 * r ≤ j ∧ j < 80 * r + (k + 1) then 32 else rw j), fi, fs, nI (k + 1))
    simp (disch := omega) only [wb_X8_text_34, z_80, pk_mul, nI_add, q_le, q_in, q_cl, nI_1, c]
    have e1 : upd (fun j => if 80 * r ≤ j ∧ j < 80 * r + k then (32 : Int32) else rw j) (80 * r + k) 32 = fun j => if 80 * r ≤ j ∧ j < 80 * r + (k + 1) then 32 else rw j := by
      funext j
      show (if j = 80 * r + k then (32 : Int32) else (if 80 * r ≤ j ∧ j < 80 * r + k then 32 else rw j)) = (if 80 * r ≤ j ∧ j < 80 * r + (k + 1) then 32 else rw j)
      by_cases h1 : j = 80 * r + k
      · rw [if_pos h1, if_pos (by omega)]
      · rw [if_neg h1]
        by_cases h2 : 80 * r ≤ j ∧ j < 80 * r + k
        · rw [if_pos h2, if_pos (by omega)]
        · rw [if_neg h2, if_neg (by omega)]
    rw [e1]
    simp
  · show wb_X8_text_34 (nI r) (nI n) post (fun a b c d e => K (a, b, c, d, e)) (upd rS r (nI n)) (fun j => if 80 * r ≤ j ∧ j < 80 * r + 80 then 32 else rw j) fi fs (nI 80) = _
    simp (disch := omega) only [wb_X8_text_34, z_80, q_le]
    simp
section SIM
variable {m : Nat → Nat} {rs rc rS rw of fs : Nat → Int32} {la fi la0 : Int32}
theorem s_row (hS : SH 6 40 m rs rc rS rw) (hT : TL of la fs fi) (r n : Int32) : wp_X7_row 6 240 (nI 40) rs rc of la r n (fun a rs' rc' of' la' => wp_X8_row rS rw fi fs r n (fun a' rS' rw' fi' fs' => a = a' ∧ (∃ m', SH 6 40 m' rs' rc' rS' rw') ∧ TL of' la' fs' fi')) := by
  rcases pk_ix r (n := 6) (by decide) with hr | hr | ⟨r, hr, rfl⟩
  · simp (disch := omega) only [wp_X7_row, e5_hasN (Or.inl hr), wp_X8_row, e8_rowN (Or.inl hr)]
    simp
    exact ⟨⟨m, hS⟩, hT⟩
  · simp (disch := omega) only [wp_X7_row, e5_hasN (Or.inr hr), wp_X8_row, e8_rowN (Or.inr hr)]
    simp
    exact ⟨⟨m, hS⟩, hT⟩
  · rcases pk_ix n (n := 41) (by decide) with hn | hn | ⟨n, hn, rfl⟩
    · simp (disch := omega) only [wp_X7_row, e5_hasY, wp_X8_row, e8_rowY, z_40, z_5, e6_note, e8_found, eq_true (neg_le hn (b := 40) (by decide)), eq_false (neg_np hn), n_1]
      simp
      exact ⟨⟨m, hS⟩, hT.note (by omega) (by omega)⟩
    · simp (disch := omega) only [wp_X7_row, e5_hasY, wp_X8_row, e8_rowY, z_40, eq_false (big_nle (b := 40) (by omega) hn), n_1]
      simp
      exact ⟨⟨m, hS⟩, hT⟩
    · have hn' : n ≤ 40 := by omega
      have h0 : (0 : Int32) ≤ nI n := nI_pos' (by omega)
      simp (disch := omega) only [wp_X7_row, e5_hasY, z_40, q_le, hn', h0, e5_make, e8_row, n_1]
      simp
      exact ⟨_, hS.make hr hn' (v := 0) (fun i hi => if_pos (by omega)) (fun i hi => if_pos (by omega)) (fun j hj => if_neg (by omega)) (fun j hj => if_neg (by omega))⟩ |> fun h => ⟨h, hT⟩
theorem s_text (hS : SH 4 80 m rs rc rS rw) (hT : TL of la fs fi) (r n : Int32) : wp_X7_text 4 320 (nI 80) rs rc of la r n (fun a rs' rc' of' la' => wp_X8_text rS rw fi fs r n (fun a' rS' rw' fi' fs' => a = a' ∧ (∃ m', SH 4 80 m' rs' rc' rS' rw') ∧ TL of' la' fs' fi')) := by
  rcases pk_ix r (n := 4) (by decide) with hr | hr | ⟨r, hr, rfl⟩
  · simp (disch := omega) only [wp_X7_text, e5_hasN (Or.inl hr), wp_X8_text, e8_textN (Or.inl hr)]
    simp
    exact ⟨⟨m, hS⟩, hT⟩
  · simp (disch := omega) only [wp_X7_text, e5_hasN (Or.inr hr), wp_X8_text, e8_textN (Or.inr hr)]
    simp
    exact ⟨⟨m, hS⟩, hT⟩
  · rcases pk_ix n (n := 81) (by decide) with hn | hn | ⟨n, hn, rfl⟩
    · simp (disch := omega) only [wp_X7_text, e5_hasY, wp_X8_text, e8_textY, z_80, z_5, e6_note, e8_found, eq_true (neg_le hn (b := 80) (by decide)), eq_false (neg_np hn), n_1]
      simp
      exact ⟨⟨m, hS⟩, hT.note (by omega) (by omega)⟩
    · simp (disch := omega) only [wp_X7_text, e5_hasY, wp_X8_text, e8_textY, z_80, eq_false (big_nle (b := 80) (by omega) hn), n_1]
      simp
      exact ⟨⟨m, hS⟩, hT⟩
    · have hn' : n ≤ 80 := by omega
      have h0 : (0 : Int32) ≤ nI n := nI_pos' (by omega)
      simp (disch := omega) only [wp_X7_text, e5_hasY, z_80, q_le, hn', h0, e5_make, e8_text, n_1]
      simp
      exact ⟨_, hS.make hr hn' (v := 32) (fun i hi => if_pos (by omega)) (fun i hi => if_pos (by omega)) (fun j hj => if_neg (by omega)) (fun j hj => if_neg (by omega))⟩ |> fun h => ⟨h, hT⟩
theorem s_tear (hS : SH 6 40 m rs rc rS rw) (hT : TL of la fs fi) (r : Int32) : wp_X7_tear 6 rs of la r (fun a rs' of' la' => wp_X8_tear rS fi fs r (fun a' rS' fi' fs' => a = a' ∧ (∃ m', SH 6 40 m' rs' rc rS' rw) ∧ TL of' la' fs' fi')) := by
  rcases pk_ix r (n := 6) (by decide) with hr | hr | ⟨r, hr, rfl⟩
  · simp only [wp_X7_tear, e7_bad (Or.inl hr), wp_X8_tear, e8_rowN (Or.inl hr), n_m1]
    simp
    exact ⟨⟨m, hS⟩, hT⟩
  · simp only [wp_X7_tear, e7_bad (Or.inr hr), wp_X8_tear, e8_rowN (Or.inr hr), n_m1]
    simp
    exact ⟨⟨m, hS⟩, hT⟩
  · obtain ⟨a, b, c, d⟩ := hS r hr
    cases hm : m r with
    | zero =>
      rw [hm] at b c
      simp (disch := omega) only [wp_X7_tear, e7_miss hr (by decide) b, wp_X8_tear, e8_rowY, q_in, q_cl, c, q_szp, n_m3, n_1, show (1 : Int32) = nI 1 from rfl, e8_found]
      simp [show nI 1 = 1 from rfl]
      exact ⟨⟨m, hS⟩, hT.note (by omega) (by omega)⟩
    | succ q =>
      rw [hm] at a b c
      simp (disch := omega) only [wp_X7_tear, e7_is hr (by decide) (by omega) b, wp_X8_tear, e8_rowY, wp_X5_drop, q_in, q_cl, c, q_szp, n_1]
      simp
      exact ⟨⟨_, hS.drop r⟩, hT⟩
theorem s_at (hS : SH 6 40 m rs rc rS rw) (hT : TL of la fs fi) (r i : Int32) : wp_X7_at la0 6 240 (nI 40) rs rc of la r i (fun a lt of' la' => wp_X8_at rS rw la0 fi fs r i (fun a' as fi' fs' => a = a' ∧ lt = as ∧ TL of' la' fs' fi')) := by
  rcases pk_ix r (n := 6) (by decide) with hr | hr | ⟨r, hr, rfl⟩
  · simp only [wp_X7_at, e7_pbad (Or.inl hr), wp_X8_at, e8_rowN (Or.inl hr), n_m1]
    simp
    exact hT
  · simp only [wp_X7_at, e7_pbad (Or.inr hr), wp_X8_at, e8_rowN (Or.inr hr), n_m1]
    simp
    exact hT
  · obtain ⟨a, b, c, d⟩ := hS r hr
    cases hm : m r with
    | zero =>
      rw [hm] at b c
      simp (disch := omega) only [wp_X7_at, e7_pmiss hr (by decide) b, wp_X8_at, e8_rowY, q_in, q_cl, c, q_szp, n_m3, n_1, show (1 : Int32) = nI 1 from rfl, e8_found]
      simp [show nI 1 = 1 from rfl]
      exact hT.note (by omega) (by omega)
    | succ q =>
      rw [hm] at a b c d
      have c' : rS r = nI q := c
      have hp : (0 : Int32) ≤ nI q := nI_pos' (by omega)
      rcases pk_ix i (n := q) (by omega) with hi | hi | ⟨i, hi, rfl⟩
      · simp (disch := omega) only [wp_X7_at, e7_pno hr (by decide) (by omega) b (Or.inl hi), wp_X8_at, e8_rowY, q_in, q_cl, c', hp, e8_plN (Or.inl hi), z_2, e8_found, n_m3, n_1]
        simp
        exact hT.note (by omega) (by omega)
      · simp (disch := omega) only [wp_X7_at, e7_pno hr (by decide) (by omega) b (Or.inr hi), wp_X8_at, e8_rowY, q_in, q_cl, c', hp, e8_plN (Or.inr hi), z_2, e8_found, n_m3, n_1]
        simp
        exact hT.note (by omega) (by omega)
      · simp (disch := omega) only [wp_X7_at, e7_pis hr (by decide) (by omega) b hi, e5_cell, wp_X8_at, e8_rowY, q_in, q_cl, c', hp, e8_plY, wp_X8_tell, z_40, pk_mul, nI_add, n_1]
        simp
        exact ⟨d i (by omega), hT⟩
theorem s_lay (hS : SH 6 40 m rs rc rS rw) (hT : TL of la fs fi) (r i v : Int32) : wp_X7_lay la0 6 240 (nI 40) rs rc of la r i v (fun a lt rc' of' la' => wp_X8_lay rS rw la0 fi fs r i v (fun a' rw' as fi' fs' => a = a' ∧ lt = as ∧ (∃ m', SH 6 40 m' rs rc' rS rw') ∧ TL of' la' fs' fi')) := by
  rcases pk_ix r (n := 6) (by decide) with hr | hr | ⟨r, hr, rfl⟩
  · simp only [wp_X7_lay, e7_pbad (Or.inl hr), wp_X8_lay, e8_rowN (Or.inl hr), n_m1]
    simp
    exact ⟨⟨m, hS⟩, hT⟩
  · simp only [wp_X7_lay, e7_pbad (Or.inr hr), wp_X8_lay, e8_rowN (Or.inr hr), n_m1]
    simp
    exact ⟨⟨m, hS⟩, hT⟩
  · obtain ⟨a, b, c, d⟩ := hS r hr
    cases hm : m r with
    | zero =>
      rw [hm] at b c
      simp (disch := omega) only [wp_X7_lay, e7_pmiss hr (by decide) b, wp_X8_lay, e8_rowY, q_in, q_cl, c, q_szp, n_m3, n_1, show (1 : Int32) = nI 1 from rfl, e8_found]
      simp [show nI 1 = 1 from rfl]
      exact ⟨⟨m, hS⟩, hT.note (by omega) (by omega)⟩
    | succ q =>
      rw [hm] at a b c d
      have c' : rS r = nI q := c
      have hp : (0 : Int32) ≤ nI q := nI_pos' (by omega)
      rcases pk_ix i (n := q) (by omega) with hi | hi | ⟨i, hi, rfl⟩
      · simp (disch := omega) only [wp_X7_lay, e7_pno hr (by decide) (by omega) b (Or.inl hi), wp_X8_lay, e8_rowY, q_in, q_cl, c', hp, e8_plN (Or.inl hi), z_2, e8_found, n_m3, n_1]
        simp
        exact ⟨⟨m, hS⟩, hT.note (by omega) (by omega)⟩
      · simp (disch := omega) only [wp_X7_lay, e7_pno hr (by decide) (by omega) b (Or.inr hi), wp_X8_lay, e8_rowY, q_in, q_cl, c', hp, e8_plN (Or.inr hi), z_2, e8_found, n_m3, n_1]
        simp
        exact ⟨⟨m, hS⟩, hT.note (by omega) (by omega)⟩
      · simp (disch := omega) only [wp_X7_lay, e7_pis hr (by decide) (by omega) b hi, e5_cell, e5_setCell, wp_X8_lay, e8_rowY, q_in, q_cl, c', hp, e8_plY, wp_X8_tell, z_40, pk_mul, nI_add, n_1]
        simp
        exact ⟨d i (by omega), ⟨m, hS.lay r i v⟩, hT⟩
theorem s_put (hS : SH 4 80 m rs rc rS rw) (hT : TL of la fs fi) (r i v : Int32) : wp_X7_put 4 320 (nI 80) rs rc of la r i v (fun a rc' of' la' => wp_X8_put rS rw fi fs r i v (fun a' rw' fi' fs' => a = a' ∧ (∃ m', SH 4 80 m' rs rc' rS rw') ∧ TL of' la' fs' fi')) := by
  rcases pk_ix r (n := 4) (by decide) with hr | hr | ⟨r, hr, rfl⟩
  · simp only [wp_X7_put, e7_pbad (Or.inl hr), wp_X8_put, e8_textN (Or.inl hr), n_m1]
    simp
    exact ⟨⟨m, hS⟩, hT⟩
  · simp only [wp_X7_put, e7_pbad (Or.inr hr), wp_X8_put, e8_textN (Or.inr hr), n_m1]
    simp
    exact ⟨⟨m, hS⟩, hT⟩
  · obtain ⟨a, b, c, d⟩ := hS r hr
    cases hm : m r with
    | zero =>
      rw [hm] at b c
      simp (disch := omega) only [wp_X7_put, e7_pmiss hr (by decide) b, wp_X8_put, e8_textY, q_in, q_cl, c, q_szp, n_m3, n_1, show (1 : Int32) = nI 1 from rfl, e8_found]
      simp [show nI 1 = 1 from rfl]
      exact ⟨⟨m, hS⟩, hT.note (by omega) (by omega)⟩
    | succ q =>
      rw [hm] at a b c d
      have c' : rS r = nI q := c
      have hp : (0 : Int32) ≤ nI q := nI_pos' (by omega)
      rcases pk_ix i (n := q) (by omega) with hi | hi | ⟨i, hi, rfl⟩
      · simp (disch := omega) only [wp_X7_put, e7_pno hr (by decide) (by omega) b (Or.inl hi), wp_X8_put, e8_textY, q_in, q_cl, c', hp, e8_plN (Or.inl hi), z_2, e8_found, n_m3, n_1]
        simp
        exact ⟨⟨m, hS⟩, hT.note (by omega) (by omega)⟩
      · simp (disch := omega) only [wp_X7_put, e7_pno hr (by decide) (by omega) b (Or.inr hi), wp_X8_put, e8_textY, q_in, q_cl, c', hp, e8_plN (Or.inr hi), z_2, e8_found, n_m3, n_1]
        simp
        exact ⟨⟨m, hS⟩, hT.note (by omega) (by omega)⟩
      · simp (disch := omega) only [wp_X7_put, e7_pis hr (by decide) (by omega) b hi, e5_cell, e5_setCell, wp_X8_put, e8_textY, q_in, q_cl, c', hp, e8_plY, z_80, pk_mul, nI_add, n_1]
        simp
        exact ⟨by rw [d i (by omega)], ⟨m, hS.lay r i _⟩, hT⟩
end SIM
