/-! counts, shares: the class answers as the reference -/
theorem l_div {a b : Nat} (ha : a < 2 ^ 62) (hb : b < 2 ^ 62) : lN a / lN b = lN (a / b) := by
  apply Int64.toInt_inj.mp
  have h1 : a / b ≤ a := Nat.div_le_self _ _
  have h2 : a / b < 2 ^ 62 := Nat.lt_of_le_of_lt h1 ha
  rw [Int64.toInt_div, pk_lT (by omega), pk_lT (by omega), pk_lT (Nat.lt_trans h2 (by decide)), ← Int.ofNat_tdiv]
  generalize a / b = q at *
  apply Int.bmod_eq_of_le <;> omega
theorem l_mul {a b : Nat} (h : a * b < 2 ^ 62) (ha : a < 2 ^ 62) (hb : b < 2 ^ 62) : lN a * lN b = lN (a * b) := by
  apply Int64.toInt_inj.mp
  rw [Int64.toInt_mul, pk_lT (by omega), pk_lT (by omega), pk_lT (by omega), ← Int.natCast_mul]
  apply Int.bmod_eq_of_le <;> omega
theorem l_sub {a b : Nat} (h : b ≤ a) (ha : a < 2 ^ 62) : lN a - lN b = lN (a - b) := by
  apply Int64.toInt_inj.mp
  rw [Int64.toInt_sub, pk_lT (by omega), pk_lT (by omega), pk_lT (by omega), ← Int.ofNat_sub h]
  apply Int.bmod_eq_of_le <;> omega
theorem l_add {a b : Nat} (ha : a < 2 ^ 62) (hb : b < 2 ^ 62) : lN a + lN b = lN (a + b) := by
  apply Int64.toInt_inj.mp
  rw [Int64.toInt_add, pk_lT (by omega), pk_lT (by omega), pk_lT (by omega), ← Int.natCast_add]
  apply Int.bmod_eq_of_le <;> omega
theorem l_rem {a b : Nat} (ha : a < 2 ^ 62) (hb : b < 2 ^ 62) : lN a - lN a / lN b * lN b = lN (a % b) := by
  have h1 : a / b * b ≤ a := Nat.div_mul_le_self a b
  have h2 : a / b ≤ a := Nat.div_le_self _ _
  rw [l_div ha hb, l_mul (by omega) (by omega) hb, l_sub h1 ha]
  congr 1
  have := Nat.mod_add_div a b
  rw [Nat.mul_comm] at this
  omega
theorem l_eq0 {a : Nat} (ha : a < 2 ^ 62) : (lN a = 0) = (a = 0) := propext (pk_lEQ (b := 0) (by omega) (by omega))
theorem l_cmp0 {a : Nat} (ha : a < 2 ^ 62) : (lg_cmp (lN a) (0 : Int64) = 0) = (a = 0) := by
  rw [lg_cmp_eq, l_eq0 ha]
theorem gcd_st (x y : Nat) : Nat.gcd y (x % y) = Nat.gcd x y := by
  rw [Nat.gcd_comm y, ← Nat.gcd_rec, Nat.gcd_comm]
theorem mod_half {x y f : Nat} (hy : y ≠ 0) (hr : x % y ≠ 0) (hf : y < 2 ^ (f + 1)) : y % (x % y) < 2 ^ f := by
  have h1 : x % y < y := Nat.mod_lt _ (by omega)
  have h2 : y % (x % y) < x % y := Nat.mod_lt _ (by omega)
  have h3 : y % (x % y) + x % y ≤ y := by
    have h4 := Nat.mod_add_div y (x % y)
    have h5 : 1 ≤ y / (x % y) := (Nat.le_div_iff_mul_le (by omega)).mpr (by omega)
    have h6 : x % y * 1 ≤ x % y * (y / (x % y)) := Nat.mul_le_mul_left _ h5
    omega
  rw [Nat.pow_succ] at hf
  omega
theorem e_common (post : Int64 → Prop) : ∀ f x y k, y < 2 ^ f → x < 2 ^ 62 → y < 2 ^ 62 → 2 * f + k ≤ 198 → (∃ z, wl_X4_commonOf_9 post z (lN x) (lN y) (nI k)) = post (lN (Nat.gcd x y)) := by
  have done : ∀ x k, x < 2 ^ 62 → k ≤ 199 → (∃ z, wl_X4_commonOf_9 post z (lN x) (lN 0) (nI k)) = post (lN (Nat.gcd x 0)) := by
    intro x k hx hk
    rw [Nat.gcd_zero_right]
    refine lp_en (σ := Int64 × Int64 × Int32) (fun K x => wb_X4_commonOf_9 post (fun u v w => K (u, v, w)) x.1 x.2.1 x.2.2) (fun z x => wl_X4_commonOf_9 post z x.1 x.2.1 x.2.2) (fun _ => rfl) (fun _ _ => rfl) (x := (lN x, lN 0, nI k)) (fun K => ?_)
    have nk : ¬ 200 ≤ k := by omega
    show wb_X4_commonOf_9 post (fun u v w => K (u, v, w)) (lN x) (lN 0) (nI k) = _
    simp (disch := omega) only [wb_X4_commonOf_9, show (200 : Int32) = nI 200 from rfl, q_le, nk, l_cmp0]
    simp
  have step : ∀ x y k, y ≠ 0 → x < 2 ^ 62 → y < 2 ^ 62 → k ≤ 199 → (∃ z, wl_X4_commonOf_9 post z (lN x) (lN y) (nI k)) = (∃ z, wl_X4_commonOf_9 post z (lN y) (lN (x % y)) (nI (k + 1))) := by
    intro x y k hy hx hy2 hk
    refine lp_st (σ := Int64 × Int64 × Int32) (fun K x => wb_X4_commonOf_9 post (fun u v w => K (u, v, w)) x.1 x.2.1 x.2.2) (fun z x => wl_X4_commonOf_9 post z x.1 x.2.1 x.2.2) (fun _ => rfl) (fun _ _ => rfl) (x := (lN x, lN y, nI k)) (y := (lN y, lN (x % y), nI (k + 1))) (fun K => ?_)
    have nk : ¬ 200 ≤ k := by omega
    show wb_X4_commonOf_9 post (fun u v w => K (u, v, w)) (lN x) (lN y) (nI k) = K (lN y, lN (x % y), nI (k + 1))
    simp (disch := omega) only [wb_X4_commonOf_9, show (200 : Int32) = nI 200 from rfl, q_le, nk, l_cmp0, l_eq0, l_rem, nI_1, hy]
    simp
  intro f
  induction f with
  | zero =>
    intro x y k h1 h2 h3 h4
    have : y = 0 := by omega
    subst this
    exact done x k h2 (by omega)
  | succ f ih =>
    intro x y k h1 h2 h3 h4
    by_cases hy : y = 0
    · subst hy; exact done x k h2 (by omega)
    · rw [step x y k hy h2 h3 (by omega)]
      have hm : x % y < y := Nat.mod_lt _ (by omega)
      by_cases hr : x % y = 0
      · rw [hr, done y (k + 1) h3 (by omega), ← gcd_st x y, hr]
      · rw [step y (x % y) (k + 1) hr h3 (by omega) (by omega)]
        have hm2 : y % (x % y) < x % y := Nat.mod_lt _ (by omega)
        rw [ih (x % y) (y % (x % y)) (k + 1 + 1) (mod_half hy hr h1) (by omega) (by omega) (by omega), gcd_st, gcd_st]
theorem e_fracL (A B up lo : Int64) (post : Int32 → Int64 → Int64 → Prop) : ∀ f x y, y < 2 ^ f → x < 2 ^ 62 → y < 2 ^ 62 → Nat.gcd x y ≠ 0 → (∃ z, wl_X8_fraction_6 A B post z up lo (lN x) (lN y)) = post 1 (A / lN (Nat.gcd x y)) (B / lN (Nat.gcd x y)) := by
  have done : ∀ x, x < 2 ^ 62 → x ≠ 0 → (∃ z, wl_X8_fraction_6 A B post z up lo (lN x) (lN 0)) = post 1 (A / lN (Nat.gcd x 0)) (B / lN (Nat.gcd x 0)) := by
    intro x hx h0
    rw [Nat.gcd_zero_right]
    refine lp_en (σ := Int64 × Int64 × Int64 × Int64) (fun K x => wb_X8_fraction_6 A B post (fun t u v w => K (t, u, v, w)) x.1 x.2.1 x.2.2.1 x.2.2.2) (fun z x => wl_X8_fraction_6 A B post z x.1 x.2.1 x.2.2.1 x.2.2.2) (fun _ => rfl) (fun _ _ => rfl) (x := (up, lo, lN x, lN 0)) (fun K => ?_)
    show wb_X8_fraction_6 A B post (fun t u v w => K (t, u, v, w)) up lo (lN x) (lN 0) = _
    simp (disch := omega) only [wb_X8_fraction_6, l_cmp0, l_eq0, h0]
    simp
  have step : ∀ x y, y ≠ 0 → x < 2 ^ 62 → y < 2 ^ 62 → (∃ z, wl_X8_fraction_6 A B post z up lo (lN x) (lN y)) = (∃ z, wl_X8_fraction_6 A B post z up lo (lN y) (lN (x % y))) := by
    intro x y hy hx hy2
    refine lp_st (σ := Int64 × Int64 × Int64 × Int64) (fun K x => wb_X8_fraction_6 A B post (fun t u v w => K (t, u, v, w)) x.1 x.2.1 x.2.2.1 x.2.2.2) (fun z x => wl_X8_fraction_6 A B post z x.1 x.2.1 x.2.2.1 x.2.2.2) (fun _ => rfl) (fun _ _ => rfl) (x := (up, lo, lN x, lN y)) (y := (up, lo, lN y, lN (x % y))) (fun K => ?_)
    show wb_X8_fraction_6 A B post (fun t u v w => K (t, u, v, w)) up lo (lN x) (lN y) = K (up, lo, lN y, lN (x % y))
    simp (disch := omega) only [wb_X8_fraction_6, l_cmp0, l_eq0, l_rem, hy]
    simp
  intro f
  induction f with
  | zero =>
    intro x y h1 h2 h3 h4
    have : y = 0 := by omega
    subst this
    exact done x h2 (by rwa [Nat.gcd_zero_right] at h4)
  | succ f ih =>
    intro x y h1 h2 h3 h4
    by_cases hy : y = 0
    · subst hy; exact done x h2 (by rwa [Nat.gcd_zero_right] at h4)
    · rw [step x y hy h2 h3]
      have hm : x % y < y := Nat.mod_lt _ (by omega)
      by_cases hr : x % y = 0
      · rw [hr, done y h3 hy, ← gcd_st x y, hr]
      · rw [step y (x % y) hr h3 (by omega)]
        have hm2 : y % (x % y) < x % y := Nat.mod_lt _ (by omega)
        rw [ih (x % y) (y % (x % y)) (mod_half hy hr h1) (by omega) (by omega) (by rwa [gcd_st, gcd_st]), gcd_st, gcd_st]
theorem e_tell {a b : Nat} (ha : a < 2 ^ 62) (hb : b < 2 ^ 62) (h0 : b ≠ 0) (post : Int64 → Int64 → Prop) : wp_X4_tell (lN a) (lN b) post = post (lN (a / Nat.gcd a b)) (lN (b / Nat.gcd a b)) := by
  have hg : Nat.gcd a b ≠ 0 := fun h => h0 (Nat.gcd_eq_zero_iff.mp h).2
  have hl : Nat.gcd a b ≤ b := Nat.gcd_le_right a (by omega)
  have q := e_common (fun r1 => ¬ (if r1 < (1 : Int64) then (1 : Int64) else r1) = 0 ∧ ¬ (if r1 < (1 : Int64) then (1 : Int64) else r1) = 0 ∧ post ((lN a) / (if r1 < (1 : Int64) then (1 : Int64) else r1)) ((lN b) / (if r1 < (1 : Int64) then (1 : Int64) else r1))) 62 a b 0 hb ha hb (by omega)
  refine Eq.trans q ?_
  have h1 : ¬ lN (Nat.gcd a b) < (1 : Int64) := by
    intro h
    have := (pk_lLT (a := Nat.gcd a b) (b := 1) (by omega) (by omega)).mp h
    omega
  simp (disch := omega) only [if_neg h1, l_eq0, hg, l_div]
  simp
theorem e_fraction {a b : Nat} (ha : a < 2 ^ 62) (hb : b < 2 ^ 62) (h0 : b ≠ 0) (up lo : Int64) (post : Int32 → Int64 → Int64 → Prop) : wp_X8_fraction up lo (lN a) (lN b) post = post 1 (lN (a / Nat.gcd a b)) (lN (b / Nat.gcd a b)) := by
  have hg : Nat.gcd a b ≠ 0 := fun h => h0 (Nat.gcd_eq_zero_iff.mp h).2
  have hl : Nat.gcd a b ≤ b := Nat.gcd_le_right a (by omega)
  refine Eq.trans (e_fracL (lN a) (lN b) up lo post 62 a b hb ha hb hg) ?_
  rw [l_div ha (by omega), l_div hb (by omega)]
