/-! mean, copy -/
def sumL (f : Nat → Int32) (b : Nat) : Nat → Int64
  | 0 => 0
  | k + 1 => sumL f b k + (f (b + k)).toInt64
theorem sumL_congr {f g : Nat → Int32} {b n : Nat} (h : ∀ i, i < n → f (b + i) = g (b + i)) : sumL f b n = sumL g b n := by
  induction n with
  | zero => rfl
  | succ n ih => simp only [sumL]; rw [ih (fun i hi => h i (by omega)), h n (by omega)]
theorem q_l0 {q : Nat} (h0 : 0 < q) (h : q < 1000) : ((nI q).toInt64 = 0) = False := by
  rw [nI_l (by omega)]
  apply eq_false
  intro hh
  have : lN q = lN 0 := hh
  rw [lN_eq (by omega) (by omega)] at this
  omega
theorem e5_sum {k nc w r q : Nat} {sz cl : Nat → Int32} (hr : r < k) (hk : k < 1000) (hs : sz r = nI q) (hq : q ≤ w) (hw : w < 1000) (hc : w * r + w ≤ nc) (hnc : nc < 100000) (post : Int64 → Prop) : wp_X5_sumOf k nc (nI w) sz cl (nI r) post = post (sumL cl (w * r) q) := by
  refine lpG (σ := Int64 × Int32) (fun K x => wb_X5_sumOf_5 k nc (nI w) sz cl (nI r) post (fun a b => K (a, b)) x.1 x.2) (fun z x => wl_X5_sumOf_5 k nc (nI w) sz cl (nI r) post z x.1 x.2) (fun _ => rfl) (fun _ _ => rfl) q (fun j => (sumL cl (w * r) j, nI j)) _ (fun j K hj => ?_) (fun K => ?_)
  · have c : ¬ q ≤ j := by omega
    show wb_X5_sumOf_5 k nc (nI w) sz cl (nI r) post (fun a b => K (a, b)) (sumL cl (w * r) j) (nI j) = K (sumL cl (w * r) (j + 1), nI (j + 1))
    simp (disch := omega) only [wb_X5_sumOf_5, q_in, q_cl, hs, q_le, e5_cell, nI_1, c]
    simp [sumL]
  · show wb_X5_sumOf_5 k nc (nI w) sz cl (nI r) post (fun a b => K (a, b)) (sumL cl (w * r) q) (nI q) = _
    simp (disch := omega) only [wb_X5_sumOf_5, q_in, q_cl, hs, q_le]
    simp
theorem e8_meanL {rS rw : Nat → Int32} {as fi : Int32} {fs : Nat → Int32} {r q : Nat} (hr : r < 6) (hs : rS r = nI q) (h0 : 0 < q) (hq : q ≤ 40) (post : Int32 → Int32 → Int32 → (Nat → Int32) → Prop) : (∃ zn, wl_X8_mean_44 rS rw (nI r) post zn as fi fs (0 : Int64) 0) = post 1 ((sumL rw (40 * r) q / (nI q).toInt64).toInt32) fi fs := by
  refine lpG (σ := Int32 × Int32 × (Nat → Int32) × Int64 × Int32) (fun K x => wb_X8_mean_44 rS rw (nI r) post (fun a b c d e => K (a, b, c, d, e)) x.1 x.2.1 x.2.2.1 x.2.2.2.1 x.2.2.2.2) (fun z x => wl_X8_mean_44 rS rw (nI r) post z x.1 x.2.1 x.2.2.1 x.2.2.2.1 x.2.2.2.2) (fun _ => rfl) (fun _ _ => rfl) q (fun j => (as, fi, fs, sumL rw (40 * r) j, nI j)) _ (fun j K hj => ?_) (fun K => ?_)
  · have c : ¬ q ≤ j := by omega
    show wb_X8_mean_44 rS rw (nI r) post (fun a b c d e => K (a, b, c, d, e)) as fi fs (sumL rw (40 * r) j) (nI j) = K (as, fi, fs, sumL rw (40 * r) (j + 1), nI (j + 1))
    simp (disch := omega) only [wb_X8_mean_44, q_in, q_cl, hs, q_le, z_40, pk_mul, nI_add, nI_1, c]
    simp [sumL]
  · show wb_X8_mean_44 rS rw (nI r) post (fun a b c d e => K (a, b, c, d, e)) as fi fs (sumL rw (40 * r) q) (nI q) = _
    simp (disch := omega) only [wb_X8_mean_44, q_in, q_cl, hs, q_le, q_l0, wp_X8_tell]
    simp
section SIM
variable {m : Nat → Nat} {rs rc rS rw of fs : Nat → Int32} {la fi la0 : Int32}
theorem s_mean (hS : SH 6 40 m rs rc rS rw) (hT : TL of la fs fi) (r : Int32) : wp_X7_mean la0 6 240 (nI 40) rs rc of la r (fun a lt of' la' => wp_X8_mean rS rw la0 fi fs r (fun a' as fi' fs' => a = a' ∧ lt = as ∧ TL of' la' fs' fi')) := by
  rcases pk_ix r (n := 6) (by decide) with hr | hr | ⟨r, hr, rfl⟩
  · simp only [wp_X7_mean, e7_bad (Or.inl hr), wp_X8_mean, e8_rowN (Or.inl hr), n_m1]
    simp
    exact hT
  · simp only [wp_X7_mean, e7_bad (Or.inr hr), wp_X8_mean, e8_rowN (Or.inr hr), n_m1]
    simp
    exact hT
  · obtain ⟨a, b, c, d⟩ := hS r hr
    cases hm : m r with
    | zero =>
      rw [hm] at b c
      simp (disch := omega) only [wp_X7_mean, e7_miss hr (by decide) b, wp_X8_mean, e8_rowY, q_in, q_cl, c, q_szp, n_m3, n_1, show (1 : Int32) = nI 1 from rfl, e8_found]
      simp [show nI 1 = 1 from rfl]
      exact hT.note (by omega) (by omega)
    | succ q =>
      rw [hm] at a b c d
      have c' : rS r = nI q := c
      have b' : rs r = nI q := b
      have hp : (0 : Int32) ≤ nI q := nI_pos' (by omega)
      by_cases hq : q = 0
      · subst hq
        have e1 : (0 < nI 0) = False := by decide
        have e2 : (nI 0 = 0) = True := by decide
        simp (disch := omega) only [wp_X7_mean, e7_is hr (by decide) (by omega) b, wp_X5_sizeOf, wp_X8_mean, e8_rowY, q_in, q_cl, b', c', hp, e1, e2, z_4, e6_note, e8_found, n_1]
        simp
        exact hT.note (by omega) (by omega)
      · have e1 : (0 < nI q) = True := eq_true (nI_lt (a := 0) (by omega) (by omega))
        have e2 : (nI q = 0) = False := by rw [z_0, q_eq (by omega) (by omega)]; simp [hq]
        have e3 : sumL rc (40 * r) q = sumL rw (40 * r) q := sumL_congr fun i hi => d i (by omega)
        simp (disch := omega) only [wp_X7_mean, e7_is hr (by decide) (by omega) b, wp_X5_sizeOf, wp_X8_mean, e8_rowY, q_in, q_cl, b', c', hp, e1, e2, e5_sum hr (by decide) b', e8_meanL hr c', q_l0, n_1, e3]
        simp
        exact hT
theorem e5_reach {k r q i n : Nat} {sz : Nat → Int32} (hr : r < k) (hk : k < 1000) (hs : sz r = nI q) (hq : q < 1000) (hi : i < 2 ^ 31) (hn : n < 2 ^ 31) (post : Int32 → Prop) : wp_X5_reaches k sz (nI r) (nI i) (nI n) post = post (if i + n ≤ q then 1 else 0) := by
  simp (disch := omega) only [wp_X5_reaches, q_lt0, q_in, q_cl, hs, q_ltI]
  by_cases c1 : q < i
  · have : ¬ i + n ≤ q := by omega
    simp [c1, this]
  · have c2 : nI q - nI i = nI (q - i) := pk_sub (by omega)
    simp (disch := omega) only [c1, c2, q_ltI]
    by_cases c3 : q - i < n
    · have : ¬ i + n ≤ q := by omega
      simp [c3, this]
    · have : i + n ≤ q := by omega
      simp [c3, this]
theorem e5_reachN {k r : Nat} {x n : Int32} {sz : Nat → Int32} (hx : x < 0) (post : Int32 → Prop) : wp_X5_reaches k sz (nI r) x n post = post 0 := by
  unfold wp_X5_reaches
  simp [hx]
theorem lc_sum {i n q : Nat} (hi : i < 2 ^ 31) (hn : n < 2 ^ 31) (hq : q < 1000) : (0 < lg_cmp ((nI i).toInt64 + (nI n).toInt64) (nI q).toInt64) = (q < i + n) := by
  rw [c_gt, nI_l hi, nI_l hn, nI_l (by omega), lN_add, pk_lLT (by omega) (by omega)]
theorem lc_sum2 {i n q : Nat} (hi : i < 2 ^ 31) (hn : n < 2 ^ 31) (hq : q < 1000) : (lg_cmp ((nI i).toInt64 + (nI n).toInt64) (nI q).toInt64 ≤ 0) = (i + n ≤ q) := by
  have h := lc_sum (q := q) hi hn hq
  apply propext
  rw [← Int32.not_lt, h]
  omega
theorem e8_copyL {rw fs : Nat → Int32} {fi : Int32} {r i t j n : Nat} (hr : r < 6) (ht : t < 6) (hi : i + n ≤ 40) (hj : j + n ≤ 40) (post : Int32 → (Nat → Int32) → Int32 → (Nat → Int32) → Prop) : (∃ zn, wl_X8_copy_104 (nI r) (nI i) (nI t) (nI j) (nI n) post zn rw fi fs 0) = post 1 (va_cpy rw rw (40 * r + i) (40 * t + j) n) fi fs := by
  by_cases hd : j ≤ i
  · have hsep : ∀ k, k < n → (40 * t + j ≤ 40 * r + i) ∨ 40 * r + i + n ≤ 40 * t + j := by
      intro k _
      by_cases h1 : t ≤ r
      · left; omega
      · right; omega
    have hl := lpG (σ := (Nat → Int32) × Int32 × (Nat → Int32) × Int32) (fun K x => wb_X8_copy_104 (nI r) (nI i) (nI t) (nI j) (nI n) post (fun a b c d => K (a, b, c, d)) x.1 x.2.1 x.2.2.1 x.2.2.2) (fun z x => wl_X8_copy_104 (nI r) (nI i) (nI t) (nI j) (nI n) post z x.1 x.2.1 x.2.2.1 x.2.2.2) (fun _ => rfl) (fun _ _ => rfl) n (fun k => (va_cpy rw rw (40 * r + i) (40 * t + j) k, fi, fs, nI k)) (post 1 (va_cpy rw rw (40 * r + i) (40 * t + j) n) fi fs) (fun k K hk => ?_) (fun K => ?_)
    · have e0 : va_cpy rw rw (40 * r + i) (40 * t + j) 0 = rw := by
        funext x; unfold va_cpy; rw [if_neg (by omega)]
      simp only [e0] at hl
      exact hl
    · have c : ¬ n ≤ k := by omega
      have hs := hsep k hk
      show wb_X8_copy_104 (nI r) (nI i) (nI t) (nI j) (nI n) post (fun a b c d => K (a, b, c, d)) (va_cpy rw rw (40 * r + i) (40 * t + j) k) fi fs (nI k) = K (va_cpy rw rw (40 * r + i) (40 * t + j) (k + 1), fi, fs, nI (k + 1))
      have e1 : upd (va_cpy rw rw (40 * r + i) (40 * t + j) k) (40 * t + j + k) (va_cpy rw rw (40 * r + i) (40 * t + j) k (40 * r + i + k)) = va_cpy rw rw (40 * r + i) (40 * t + j) (k + 1) := by
        funext x
        unfold upd va_cpy
        by_cases h1 : x = 40 * t + j + k
        · rw [if_pos h1, if_neg (by omega), if_pos (by omega)]
          congr 1; omega
        · rw [if_neg h1]
          by_cases h2 : 40 * t + j ≤ x ∧ x < 40 * t + j + k
          · rw [if_pos h2, if_pos (by omega)]
          · rw [if_neg h2, if_neg (by omega)]
      simp (disch := omega) only [wb_X8_copy_104, wb_X8_copy_129, q_le, z_40, pk_mul, nI_add, q_in, q_cl, nI_1, c, hd, e1]
      simp
    · show wb_X8_copy_104 (nI r) (nI i) (nI t) (nI j) (nI n) post (fun a b c d => K (a, b, c, d)) (va_cpy rw rw (40 * r + i) (40 * t + j) n) fi fs (nI n) = _
      simp (disch := omega) only [wb_X8_copy_104, q_le]
      simp
  · have hsep : ∀ k, k < n → (40 * r + i ≤ 40 * t + j) ∨ 40 * t + j + n ≤ 40 * r + i := by
      intro k _
      by_cases h1 : r ≤ t
      · left; omega
      · right; omega
    have hl := lpG (σ := (Nat → Int32) × Int32 × (Nat → Int32) × Int32) (fun K x => wb_X8_copy_104 (nI r) (nI i) (nI t) (nI j) (nI n) post (fun a b c d => K (a, b, c, d)) x.1 x.2.1 x.2.2.1 x.2.2.2) (fun z x => wl_X8_copy_104 (nI r) (nI i) (nI t) (nI j) (nI n) post z x.1 x.2.1 x.2.2.1 x.2.2.2) (fun _ => rfl) (fun _ _ => rfl) n (fun k => (va_cpy rw rw (40 * r + i + (n - k)) (40 * t + j + (n - k)) k, fi, fs, nI k)) (post 1 (va_cpy rw rw (40 * r + i) (40 * t + j) n) fi fs) (fun k K hk => ?_) (fun K => ?_)
    · have e0 : va_cpy rw rw (40 * r + i + (n - 0)) (40 * t + j + (n - 0)) 0 = rw := by
        funext x; unfold va_cpy; rw [if_neg (by omega)]
      simp only [e0] at hl
      exact hl
    · have c : ¬ n ≤ k := by omega
      have hs := hsep k hk
      show wb_X8_copy_104 (nI r) (nI i) (nI t) (nI j) (nI n) post (fun a b c d => K (a, b, c, d)) (va_cpy rw rw (40 * r + i + (n - k)) (40 * t + j + (n - k)) k) fi fs (nI k) = K (va_cpy rw rw (40 * r + i + (n - (k + 1))) (40 * t + j + (n - (k + 1))) (k + 1), fi, fs, nI (k + 1))
      have e1 : upd (va_cpy rw rw (40 * r + i + (n - k)) (40 * t + j + (n - k)) k) (40 * t + j + (n - 1 - k)) (va_cpy rw rw (40 * r + i + (n - k)) (40 * t + j + (n - k)) k (40 * r + i + (n - 1 - k))) = va_cpy rw rw (40 * r + i + (n - (k + 1))) (40 * t + j + (n - (k + 1))) (k + 1) := by
        funext x
        unfold upd va_cpy
        by_cases h1 : x = 40 * t + j + (n - 1 - k)
        · rw [if_pos h1, if_neg (by omega), if_pos (by omega)]
          congr 1; omega
        · rw [if_neg h1]
          by_cases h2 : 40 * t + j + (n - k) ≤ x ∧ x < 40 * t + j + (n - k) + k
          · rw [if_pos h2, if_pos (by omega)]
            congr 1; omega
          · rw [if_neg h2, if_neg (by omega)]
      have e2 : nI n - 1 - nI k = nI (n - 1 - k) := by
        rw [show nI n - 1 = nI (n - 1) from pk_sub (a := n) (b := 1) (by omega), pk_sub (by omega)]
      simp (disch := omega) only [wb_X8_copy_104, wb_X8_copy_129, e2, q_le, z_40, pk_mul, nI_add, q_in, q_cl, nI_1, c, hd, e1]
      simp
    · show wb_X8_copy_104 (nI r) (nI i) (nI t) (nI j) (nI n) post (fun a b c d => K (a, b, c, d)) (va_cpy rw rw (40 * r + i + (n - n)) (40 * t + j + (n - n)) n) fi fs (nI n) = _
      rw [Nat.sub_self, Nat.add_zero, Nat.add_zero]
      simp (disch := omega) only [wb_X8_copy_104, q_le]
      simp
theorem SH.copy (hS : SH 6 40 m rs rc rS rw) {r i t j n : Nat} (hr : r < 6) (ht : t < 6) (hi : i + n + 1 ≤ m r) (hj : j + n + 1 ≤ m t) : SH 6 40 m rs (va_cpy rc rc (40 * r + i) (40 * t + j) n) rS (va_cpy rw rw (40 * r + i) (40 * t + j) n) := by
  intro x hx
  obtain ⟨a, b, c, d⟩ := hS x hx
  refine ⟨a, b, c, fun y hy => ?_⟩
  obtain ⟨a1, b1, c1, d1⟩ := hS r hr
  unfold va_cpy
  by_cases h : 40 * t + j ≤ 40 * x + y ∧ 40 * x + y < 40 * t + j + n
  · rw [if_pos h, if_pos h]
    have := d1 (i + (40 * x + y - (40 * t + j))) (by omega)
    rw [← Nat.add_assoc] at this
    exact this
  · rw [if_neg h, if_neg h]; exact d y hy
theorem e5_move {r i t j n : Nat} {cl : Nat → Int32} (hr : r < 6) (ht : t < 6) (hi : i + n ≤ 40) (hj : j + n ≤ 40) (post : (Nat → Int32) → Prop) : wp_X5_move 240 (nI 40) cl (nI r) (nI i) (nI t) (nI j) (nI n) post = post (va_cpy cl cl (40 * r + i) (40 * t + j) n) := by
  have e1 : r * 40 = 40 * r := Nat.mul_comm r 40
  have e2 : t * 40 = 40 * t := Nat.mul_comm t 40
  have h1 : 40 * r + i + n ≤ 240 := by omega
  have h2 : 40 * t + j + n ≤ 240 := by omega
  simp (disch := omega) only [wp_X5_move, pk_mul, nI_add, e1, e2, q_lt0, q_cl, h1, h2]
  simp
theorem s_copy (hS : SH 6 40 m rs rc rS rw) (hT : TL of la fs fi) (r i t j n : Int32) : wp_X7_copy 6 240 (nI 40) rs rc of la r i t j n (fun a rc' of' la' => wp_X8_copy rS rw fi fs r i t j n (fun a' rw' fi' fs' => a = a' ∧ (∃ m', SH 6 40 m' rs rc' rS rw') ∧ TL of' la' fs' fi')) := by
  have hN : TL (upd of 1 (of 1 + 1)) (nI 1) (upd fs 1 (fs 1 + 1)) (nI 1) := hT.note (by omega) (by omega)
  have hB : TL (upd of 2 (of 2 + 1)) (nI 2) (upd fs 2 (fs 2 + 1)) (nI 2) := hT.note (by omega) (by omega)
  have hZ : TL (upd of 5 (of 5 + 1)) (nI 5) (upd fs 5 (fs 5 + 1)) (nI 5) := hT.note (by omega) (by omega)
  rcases pk_ix r (n := 6) (by decide) with hr | hr | ⟨r, hr, rfl⟩
  · simp only [wp_X7_copy, e5_hasN (Or.inl hr), wp_X8_copy, e8_rowN (Or.inl hr)]
    simp
    exact ⟨⟨m, hS⟩, hT⟩
  · simp only [wp_X7_copy, e5_hasN (Or.inr hr), wp_X8_copy, e8_rowN (Or.inr hr)]
    simp
    exact ⟨⟨m, hS⟩, hT⟩
  rcases pk_ix t (n := 6) (by decide) with ht | ht | ⟨t, ht, rfl⟩
  · simp (disch := omega) only [wp_X7_copy, e5_hasY, e5_hasN (Or.inl ht), wp_X8_copy, e8_rowY, e8_rowN (Or.inl ht), n_1]
    simp
    exact ⟨⟨m, hS⟩, hT⟩
  · simp (disch := omega) only [wp_X7_copy, e5_hasY, e5_hasN (Or.inr ht), wp_X8_copy, e8_rowY, e8_rowN (Or.inr ht), n_1]
    simp
    exact ⟨⟨m, hS⟩, hT⟩
  by_cases hn : n < 0
  · simp (disch := omega) only [wp_X7_copy, e5_hasY, wp_X8_copy, e8_rowY, eq_false (neg_np hn), z_5, e6_note, e8_found, n_1]
    simp
    exact ⟨⟨m, hS⟩, hZ⟩
  obtain ⟨n, hn31, rfl⟩ := nI_of hn
  have hn0 : (0 : Int32) ≤ nI n := nI_pos' hn31
  obtain ⟨a, b, c, d⟩ := hS r hr
  obtain ⟨a2, b2, c2, d2⟩ := hS t ht
  cases hm : m r with
  | zero =>
    rw [hm] at b c
    simp (disch := omega) only [wp_X7_copy, wb_X7_copy_60, e5_hasY, e5_there (m := 0) hr (by decide) (by omega) b, wp_X8_copy, wb_X8_copy_45, e8_rowY, hn0, q_in, q_cl, c, q_sz0, n_1, show (1 : Int32) = nI 1 from rfl, e6_note, e8_found]
    simp [show nI 1 = 1 from rfl]
    exact ⟨⟨m, hS⟩, hN⟩
  | succ q =>
    rw [hm] at a b c
    cases hm2 : m t with
    | zero =>
      rw [hm2] at b2 c2
      simp (disch := omega) only [wp_X7_copy, wb_X7_copy_60, e5_hasY, e5_there (m := q + 1) hr (by decide) (by omega) b, e5_there (m := 0) ht (by decide) (by omega) b2, wp_X8_copy, wb_X8_copy_45, e8_rowY, hn0, q_in, q_cl, c, c2, q_sz0, q_szp, n_1, show (1 : Int32) = nI 1 from rfl, e6_note, e8_found]
      simp [show nI 1 = 1 from rfl]
      exact ⟨⟨m, hS⟩, hN⟩
    | succ q2 =>
      rw [hm2] at a2 b2 c2
      have cs : rS r = nI q := c
      have cs2 : rS t = nI q2 := c2
      have bs : rs r = nI q := b
      have bs2 : rs t = nI q2 := b2
      have hq0 : (nI q < 0) = False := q_lt0 (by omega)
      have hq1 : (0 : Int32) ≤ nI q2 := nI_pos' (by omega)
      by_cases hi : i < 0
      · simp (disch := omega) only [wp_X7_copy, wb_X7_copy_98, e5_hasY, e5_there (m := q + 1) hr (by decide) (by omega) b, e5_there (m := q2 + 1) ht (by decide) (by omega) b2, e5_reachN hi, wp_X8_copy, wb_X8_copy_95, e8_rowY, hn0, q_in, q_cl, cs, cs2, hq0, hq1, hi, n_1, z_2, e6_note, e8_found]
        simp
        exact ⟨⟨m, hS⟩, hB⟩
      obtain ⟨i, hi31, rfl⟩ := nI_of hi
      by_cases hj : j < 0
      · by_cases c3 : i + n ≤ q <;>
        · simp (disch := omega) only [wp_X7_copy, wb_X7_copy_98, e5_hasY, e5_there (m := q + 1) hr (by decide) (by omega) b, e5_there (m := q2 + 1) ht (by decide) (by omega) b2, e5_reach hr (by decide) bs, e5_reachN hj, wp_X8_copy, wb_X8_copy_95, e8_rowY, hn0, q_in, q_cl, cs, cs2, hq0, hq1, q_lt0, hj, n_1, z_2, e6_note, e8_found, c3]
          simp
          exact ⟨⟨m, hS⟩, hB⟩
      obtain ⟨j, hj31, rfl⟩ := nI_of hj
      by_cases c3 : i + n ≤ q
      · have c3' : ¬ q < i + n := by omega
        by_cases c4 : j + n ≤ q2
        · simp (disch := omega) only [wp_X7_copy, wb_X7_copy_98, e5_hasY, e5_there (m := q + 1) hr (by decide) (by omega) b, e5_there (m := q2 + 1) ht (by decide) (by omega) b2, e5_reach hr (by decide) bs, e5_reach ht (by decide) bs2, e5_move, wp_X8_copy, wb_X8_copy_95, e8_rowY, hn0, q_in, q_cl, cs, cs2, hq0, hq1, q_lt0, n_1, lc_sum, lc_sum2, e8_copyL, c3, c3', c4]
          simp
          exact ⟨⟨m, hS.copy hr ht (by omega) (by omega)⟩, hT⟩
        · simp (disch := omega) only [wp_X7_copy, wb_X7_copy_98, e5_hasY, e5_there (m := q + 1) hr (by decide) (by omega) b, e5_there (m := q2 + 1) ht (by decide) (by omega) b2, e5_reach hr (by decide) bs, e5_reach ht (by decide) bs2, wp_X8_copy, wb_X8_copy_95, e8_rowY, hn0, q_in, q_cl, cs, cs2, hq0, hq1, q_lt0, n_1, lc_sum, lc_sum2, z_2, e6_note, e8_found, c3, c3', c4]
          simp
          exact ⟨⟨m, hS⟩, hB⟩
      · have c3' : q < i + n := by omega
        simp (disch := omega) only [wp_X7_copy, wb_X7_copy_98, e5_hasY, e5_there (m := q + 1) hr (by decide) (by omega) b, e5_there (m := q2 + 1) ht (by decide) (by omega) b2, e5_reach hr (by decide) bs, wp_X8_copy, wb_X8_copy_95, e8_rowY, hn0, q_in, q_cl, cs, cs2, hq0, hq1, q_lt0, n_1, lc_sum, lc_sum2, z_2, e6_note, e8_found, c3, c3']
        simp
        exact ⟨⟨m, hS⟩, hB⟩
end SIM
