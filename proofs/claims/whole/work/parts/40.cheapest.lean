/-! cheapest -/
def sqC (r k : Nat) (f : Nat → Nat) (b : Nat → Int32) : Nat → Int32 := fun x => if 40 * r ≤ x ∧ x < 40 * r + k then nI (f (x - 40 * r)) else b x
theorem sqC_up {r k : Nat} {f : Nat → Nat} {b : Nat → Int32} : upd (sqC r k f b) (40 * r + k) (nI (f k)) = sqC r (k + 1) f b := by
  funext x
  show (if x = 40 * r + k then nI (f k) else (if 40 * r ≤ x ∧ x < 40 * r + k then nI (f (x - 40 * r)) else b x)) = if 40 * r ≤ x ∧ x < 40 * r + (k + 1) then nI (f (x - 40 * r)) else b x
  by_cases h1 : x = 40 * r + k
  · rw [if_pos h1, if_pos (by omega), h1, show 40 * r + k - 40 * r = k by omega]
  · rw [if_neg h1]
    by_cases h2 : 40 * r ≤ x ∧ x < 40 * r + k
    · rw [if_pos h2, if_pos (by omega)]
    · rw [if_neg h2, if_neg (by omega)]
theorem sqC_0 (r : Nat) (f : Nat → Nat) (b : Nat → Int32) : sqC r 0 f b = b := by
  funext x; unfold sqC; rw [if_neg (by omega)]
section CP
variable {kinds whos toWhoms topics weights answered now : Nat → Int32} {n s : Nat} {h : Nat → Nat → Nat}
/-- what is left after k have gone -/
def lf (n : Nat) (h : Nat → Nat → Nat) (s : Nat) : Nat → Nat
  | 0 => s
  | k + 1 => clr (lf n h s k) (FC n h (lf n h s k))
theorem sub_lt {t s : Nat} (ht : t < 4096) (hs : nd t s = 0) : t ≤ s := by
  have e : t = t &&& s := by
    refine set_ext (n := 12) ht (and_lt (n := 12) ht) fun e he => ?_
    have h1 : (nd t s).testBit e = false := by rw [hs]; simp
    rw [tb_nd (by omega)] at h1
    rw [Nat.testBit_and]
    cases a : t.testBit e <;> cases b : s.testBit e <;> simp_all
  rw [e]; exact Nat.and_le_right
theorem lf_is (hW : HW n h) (hs : s < 2 ^ n) : ∀ k, k ≤ pc s → lf n h s k < 2 ^ n ∧ nd (lf n h s k) s = 0 ∧ pc (lf n h s k) = pc s - k := by
  have hn := hW.1
  have h12 : 2 ^ n ≤ 4096 := Nat.pow_le_pow_right (n := 2) (by decide) hn
  intro k
  induction k with
  | zero =>
    intro _
    refine ⟨hs, set_ext (n := 12) (nd_lt (n := 12) (by show s < 4096; omega)) (by decide) fun e he => ?_, rfl⟩
    show (nd s s).testBit e = _
    rw [tb_nd (by omega)]; simp
  | succ k ih =>
    intro hk
    obtain ⟨a, b, c⟩ := ih (by omega)
    have l4 : lf n h s k < 4096 := by omega
    have t0 : lf n h s k ≠ 0 := fun e => by rw [e, pc_0] at c; omega
    obtain ⟨f1, f2, f3, f4⟩ := FC_is hW a t0
    have hb : (lf n h s k).testBit (FC n h (lf n h s k)) = true := by unfold mayS at f2; simp at f2; exact f2.1
    refine ⟨clr_lt a, sub_clr l4 b, ?_⟩
    have := pc_clr (t := lf n h s k) (i := FC n h (lf n h s k)) (by omega) hb
    show pc (clr (lf n h s k) (FC n h (lf n h s k))) = _
    omega
theorem e_first (hR : HR kinds whos toWhoms topics weights answered n h) (hW : HW n h) {ls O H : Nat → Int32} (hI : IR n h O H) {t : Nat} (ht : t < 2 ^ n) (t0 : t ≠ 0) (hts : t ≤ s) (hsub : nd t s = 0) (h7 : I7 n h s ls (s + 1)) (post : Int32 → Prop) : wp_X2_firstOfCheapest ls O H kinds topics weights (nI n) (nI t) post = post (nI (FC n h t)) := by
  have hn := hW.1
  have h12 : 2 ^ n ≤ 4096 := Nat.pow_le_pow_right (n := 2) (by decide) hn
  have ht4 : t < 4096 := by omega
  obtain ⟨f1, f2, f3, f4⟩ := FC_is hW ht t0
  obtain ⟨m, rfl⟩ : ∃ m, n = m + 1 := ⟨n - 1, by omega⟩
  have hlt := h7 t (by omega) hsub
  have bt := LC_le (h := h) (lb := lb0) hn t
  refine lpG (σ := Int32) (fun K x => wb_X2_firstOfCheapest_2 ls O H kinds topics weights (nI (m + 1)) (nI t) post K x) (fun z x => wl_X2_firstOfCheapest_2 ls O H kinds topics weights (nI (m + 1)) (nI t) post z x) (fun _ => rfl) (fun _ _ => rfl) (FC (m + 1) h t) (fun k => nI k) _ (fun k K hk => ?_) (fun K => ?_)
  · have nk : ¬ m ≤ k := by omega
    have hkn : k < m + 1 := by omega
    show wb_X2_firstOfCheapest_2 ls O H kinds topics weights (nI (m + 1)) (nI t) post K (nI k) = K (nI (k + 1))
    simp (disch := omega) only [wb_X2_firstOfCheapest_2, wp_X1_howMany, nI_pred, q_le, nk, e_canGo hW hI hkn ht4, q_if0, q_in, q_cl, nI_1]
    cases hm : mayS (m + 1) h t k with
    | false => simp
    | true =>
      have hb : t.testBit k = true := by unfold mayS at hm; simp at hm; exact hm.1
      have hc := clr_self (t := t) (k := k) (by omega) hb
      have hL := h7 (clr t k) (by omega) (sub_clr ht4 hsub)
      have b1 := LC_le (h := h) (lb := lb0) hn (clr t k)
      have b3 := price_le (s := t) hW hkn
      have ne : ¬ priceS (m + 1) h t k + LC (m + 1) h lb0 (clr t k) = LC (m + 1) h lb0 t := fun e => f4 k hk ⟨hm, e⟩
      simp (disch := omega) only [e_costFrom hR hW hI hkn ht4 hL, hlt, q_eq, ne]
      simp
  · show wb_X2_firstOfCheapest_2 ls O H kinds topics weights (nI (m + 1)) (nI t) post K (nI (FC (m + 1) h t)) = _
    have hb : t.testBit (FC (m + 1) h t) = true := by
      have := f2; unfold mayS at this; simp at this; exact this.1
    have hc := clr_self (t := t) (k := FC (m + 1) h t) (by omega) hb
    have hL := h7 (clr t (FC (m + 1) h t)) (by omega) (sub_clr ht4 hsub)
    have b1 := LC_le (h := h) (lb := lb0) hn (clr t (FC (m + 1) h t))
    have b3 := price_le (s := t) hW f1
    simp (disch := omega) only [wb_X2_firstOfCheapest_2, wp_X1_howMany, nI_pred, q_le, e_canGo hW hI f1 ht4, q_if0, q_in, q_cl, f2, e_costFrom hR hW hI f1 ht4 hL, hlt, f3]
    by_cases c : m ≤ FC (m + 1) h t <;> simp [c]
theorem e_write (hR : HR kinds whos toWhoms topics weights answered n h) (hW : HW n h) (hs : s < 2 ^ n) {ls O H : Nat → Int32} (hI : IR n h O H) (h7 : I7 n h s ls (s + 1)) {r : Nat} (hr : r < 6) (rs rc : Nat → Int32) (post : (Nat → Int32) → (Nat → Int32) → Prop) : wp_X2_writeCheapest ls O H kinds topics weights (nI n) (nI s) 6 240 (nI 40) rs rc (nI r) post = post (upd rs r (nI (pc s))) (sqC r (pc s) (fun k => FC n h (lf n h s k)) (fun j => if 40 * r ≤ j ∧ j < 40 * r + pc s then 0 else rc j)) := by
  have hn := hW.1
  have h12 : 2 ^ n ≤ 4096 := Nat.pow_le_pow_right (n := 2) (by decide) hn
  have hp := pc_le s
  have x : ∀ sz b : Nat → Int32, (∃ zn, wl_X2_writeCheapest_24 ls O H kinds topics weights (nI n) 240 (nI 40) (nI r) post zn sz b (nI s) (nI (pc s)) 0) = post sz (sqC r (pc s) (fun k => FC n h (lf n h s k)) b) := by
    intro sz b
    have q := lpG (σ := (Nat → Int32) × (Nat → Int32) × Int32 × Int32 × Int32) (fun K x => wb_X2_writeCheapest_24 ls O H kinds topics weights (nI n) 240 (nI 40) (nI r) post (fun a b c d e => K (a, b, c, d, e)) x.1 x.2.1 x.2.2.1 x.2.2.2.1 x.2.2.2.2) (fun z x => wl_X2_writeCheapest_24 ls O H kinds topics weights (nI n) 240 (nI 40) (nI r) post z x.1 x.2.1 x.2.2.1 x.2.2.2.1 x.2.2.2.2) (fun _ => rfl) (fun _ _ => rfl) (pc s) (fun k => (sz, sqC r k (fun k => FC n h (lf n h s k)) b, nI (lf n h s k), nI (pc s), nI k)) (post sz (sqC r (pc s) (fun k => FC n h (lf n h s k)) b)) ?_ ?_
    · rw [sqC_0] at q
      exact q
    · intro k K hk
      obtain ⟨a1, a2, a3⟩ := lf_is hW hs k (by omega)
      have t0 : lf n h s k ≠ 0 := fun e => by rw [e, pc_0] at a3; omega
      have hle := sub_lt (s := s) (show lf n h s k < 4096 by omega) a2
      obtain ⟨f1, f2, f3, f4⟩ := FC_is hW a1 t0
      have nk : ¬ pc s ≤ k := by omega
      have up := sqC_up (r := r) (k := k) (f := fun k => FC n h (lf n h s k)) (b := b)
      show wb_X2_writeCheapest_24 ls O H kinds topics weights (nI n) 240 (nI 40) (nI r) post (fun a b c d e => K (a, b, c, d, e)) sz (sqC r k (fun k => FC n h (lf n h s k)) b) (nI (lf n h s k)) (nI (pc s)) (nI k) = K (sz, sqC r (k + 1) (fun k => FC n h (lf n h s k)) b, nI (lf n h s (k + 1)), nI (pc s), nI (k + 1))
      simp (disch := omega) only [wb_X2_writeCheapest_24, q_le, nk, e_first hR hW hI a1 t0 hle a2 h7, e5_setCell, e_bit, q_nd, nI_1]
      simp only [up]
      simp [lf, clr]
    · intro K
      show wb_X2_writeCheapest_24 ls O H kinds topics weights (nI n) 240 (nI 40) (nI r) post (fun a b c d e => K (a, b, c, d, e)) sz _ _ (nI (pc s)) (nI (pc s)) = _
      simp (disch := omega) only [wb_X2_writeCheapest_24, q_le]
      simp
  simp (disch := omega) only [wp_X2_writeCheapest, wp_X1_saidBits, e_bc, e5_make, x]
theorem e_m53 (hM : MH now n h) (hW : HW n h) {t : Nat} (ht : t < 2 ^ n) (t0 : t ≠ 0) (hts : t ≤ s) (hsub : nd t s = 0) {costs : Nat → Int32} {ways : Nat → Int64} (hI : IV n h lb0 s costs ways (s + 1)) {r p : Nat} (hr : r < 6) (hp : p < 40) (K43 : (Nat → Int32) → (Nat → Int32) → Int32 → (Nat → Int32) → (Nat → Int32) → (Nat → Int64) → Int32 → Int32 → Int32 → Int32 → Prop) (rS rw fs : Nat → Int32) (fi x3 x4 : Int32) : (∃ zn, wl_X8_cheapest_53 now (nI r) K43 zn rS rw fi fs costs ways (nI t) x3 x4 (nI p) 0) = K43 rS (upd rw (40 * r + p) (nI (FC n h t))) fi fs costs ways (nI (clr t (FC n h t))) x3 x4 (nI (p + 1)) := by
  have hn := hW.1
  have h12 : 2 ^ n ≤ 4096 := Nat.pow_le_pow_right (n := 2) (by decide) hn
  have ht4 : t < 4096 := by omega
  obtain ⟨f1, f2, f3, f4⟩ := FC_is hW ht t0
  have hlt := (hI t (by omega) hsub).1
  have bt := LC_le (h := h) (lb := lb0) hn t
  refine lpG (σ := (Nat → Int32) × (Nat → Int32) × Int32 × (Nat → Int32) × (Nat → Int32) × (Nat → Int64) × Int32 × Int32 × Int32 × Int32 × Int32) (fun K x => wb_X8_cheapest_53 now (nI r) K43 (fun a b c d e f g i j k l => K (a, b, c, d, e, f, g, i, j, k, l)) x.1 x.2.1 x.2.2.1 x.2.2.2.1 x.2.2.2.2.1 x.2.2.2.2.2.1 x.2.2.2.2.2.2.1 x.2.2.2.2.2.2.2.1 x.2.2.2.2.2.2.2.2.1 x.2.2.2.2.2.2.2.2.2.1 x.2.2.2.2.2.2.2.2.2.2) (fun z x => wl_X8_cheapest_53 now (nI r) K43 z x.1 x.2.1 x.2.2.1 x.2.2.2.1 x.2.2.2.2.1 x.2.2.2.2.2.1 x.2.2.2.2.2.2.1 x.2.2.2.2.2.2.2.1 x.2.2.2.2.2.2.2.2.1 x.2.2.2.2.2.2.2.2.2.1 x.2.2.2.2.2.2.2.2.2.2) (fun _ => rfl) (fun _ _ => rfl) (FC n h t) (fun k => (rS, rw, fi, fs, costs, ways, nI t, x3, x4, nI p, nI k)) _ (fun k K hk => ?_) (fun K => ?_)
  · have hkn : k < n := by omega
    show wb_X8_cheapest_53 now (nI r) K43 (fun a b c d e f g i j k l => K (a, b, c, d, e, f, g, i, j, k, l)) rS rw fi fs costs ways (nI t) x3 x4 (nI p) (nI k) = K (rS, rw, fi, fs, costs, ways, nI t, x3, x4, nI p, nI (k + 1))
    simp (disch := omega) only [wb_X8_cheapest_53, e_mayBe hM hW hkn ht4, q_if0, q_sh, q_nd, show nd t (2 ^ k) = clr t k from rfl, nI_1]
    cases hm : mayS n h t k with
    | false => simp
    | true =>
      have hb : t.testBit k = true := by unfold mayS at hm; simp at hm; exact hm.1
      have hc := clr_self (t := t) (k := k) (by omega) hb
      have hL := (hI (clr t k) (by omega) (sub_clr ht4 hsub)).1
      have b1 := LC_le (h := h) (lb := lb0) hn (clr t k)
      have b3 := price_le (s := t) hW hkn
      have ne : ¬ priceS n h t k + LC n h lb0 (clr t k) = LC n h lb0 t := fun e => f4 k hk ⟨hm, e⟩
      simp (disch := omega) only [e_mprice hM hW hkn ht4, q_in, q_cl, hL, hlt, nI_add, q_eq, ne]
      simp
  · show wb_X8_cheapest_53 now (nI r) K43 (fun a b c d e f g i j k l => K (a, b, c, d, e, f, g, i, j, k, l)) rS rw fi fs costs ways (nI t) x3 x4 (nI p) (nI (FC n h t)) = _
    have hb : t.testBit (FC n h t) = true := by
      have := f2; unfold mayS at this; simp at this; exact this.1
    have hc := clr_self (t := t) (k := FC n h t) (by omega) hb
    have hL := (hI (clr t (FC n h t)) (by omega) (sub_clr ht4 hsub)).1
    have b1 := LC_le (h := h) (lb := lb0) hn (clr t (FC n h t))
    have b3 := price_le (s := t) hW f1
    simp (disch := omega) only [wb_X8_cheapest_53, e_mayBe hM hW f1 ht4, q_if0, f2, e_mprice hM hW f1 ht4, q_sh, q_nd, show nd t (2 ^ FC n h t) = clr t (FC n h t) from rfl, q_in, q_cl, hL, hlt, nI_add, f3, z_40, pk_mul, nI_1]
    simp
theorem lb9 : ∀ i, i < 12 → (nI i = (-9 : Int32) ↔ lb0 i = true) := fun i hi => by
  have : (ansI (i + 1) = -9) = (i + 1 = 0) := q_a9 (by omega)
  rw [show ansI (i + 1) = nI i from rfl] at this
  rw [this]
  simp [lb0]
theorem s_cheapest (hR : HR kinds whos toWhoms topics weights answered n h) (hM : MH now n h) (hW : HW n h) (hs : s < 2 ^ n) (hs2 : now 2 = nI s) {m : Nat → Nat} {rs rc rS rw : Nat → Int32} (hS : SH 6 40 m rs rc rS rw) (fi : Int32) (fs ls O H costs : Nat → Int32) (ways : Nat → Int64) (r : Int32) : wp_X7_cheapest 6 240 (nI 40) rs rc kinds whos toWhoms topics weights answered (nI n) (nI s) ls O H r (fun a rs' rc' _ _ _ => wp_X8_cheapest rS rw now fi fs costs ways r (fun a' rS' rw' fi' fs' _ _ => a = a' ∧ (∃ m', SH 6 40 m' rs' rc' rS' rw') ∧ fi' = fi ∧ fs' = fs)) := by
  have hn := hW.1
  have h12 : 2 ^ n ≤ 4096 := Nat.pow_le_pow_right (n := 2) (by decide) hn
  have hs4 : s < 4096 := by omega
  have hp := pc_le s
  rcases pk_ix r (n := 6) (by decide) with hr | hr | ⟨r, hr, rfl⟩
  · simp only [wp_X7_cheapest, e5_hasN (k := 6) (Or.inl hr), wp_X8_cheapest, e8_rowN (Or.inl hr)]
    simp
    exact ⟨m, hS⟩
  · simp only [wp_X7_cheapest, e5_hasN (k := 6) (Or.inr hr), wp_X8_cheapest, e8_rowN (Or.inr hr)]
    simp
    exact ⟨m, hS⟩
  obtain ⟨ls', O', H', w1, w2, w3⟩ := e_weigh hR hW hs4 ls O H
  obtain ⟨c', y', v1, v2⟩ := e_lay (last := -9) hM hW hs4 hs2 lb9 (s + 1) 0 costs ways (by omega) (fun u hu => by omega)
  have lay : ∀ post, wp_X8_layOrders now costs ways (-9) post = post c' y' := fun post => by
    unfold wp_X8_layOrders
    rw [hs2]
    exact v2 post
  obtain ⟨g1, g2, g3⟩ := lf_is hW hs 0 (by omega)
  have hcs : c' s = nI (LC n h lb0 s) := (v1 s (by omega) g2).1
  have m43 : ∀ post : Int32 → (Nat → Int32) → (Nat → Int32) → Int32 → (Nat → Int32) → (Nat → Int32) → (Nat → Int64) → Prop, ∀ rS' b x3, (∃ zn, wl_X8_cheapest_43 now (nI r) post zn rS' b fi fs c' y' (nI s) x3 (nI (pc s)) 0) = post x3 rS' (sqC r (pc s) (fun k => FC n h (lf n h s k)) b) fi fs c' y' := by
    intro post rS' b x3
    have q := lpG (σ := (Nat → Int32) × (Nat → Int32) × Int32 × (Nat → Int32) × (Nat → Int32) × (Nat → Int64) × Int32 × Int32 × Int32 × Int32) (fun K x => wb_X8_cheapest_43 now (nI r) post (fun a b c d e f g i j k => K (a, b, c, d, e, f, g, i, j, k)) x.1 x.2.1 x.2.2.1 x.2.2.2.1 x.2.2.2.2.1 x.2.2.2.2.2.1 x.2.2.2.2.2.2.1 x.2.2.2.2.2.2.2.1 x.2.2.2.2.2.2.2.2.1 x.2.2.2.2.2.2.2.2.2) (fun z x => wl_X8_cheapest_43 now (nI r) post z x.1 x.2.1 x.2.2.1 x.2.2.2.1 x.2.2.2.2.1 x.2.2.2.2.2.1 x.2.2.2.2.2.2.1 x.2.2.2.2.2.2.2.1 x.2.2.2.2.2.2.2.2.1 x.2.2.2.2.2.2.2.2.2) (fun _ => rfl) (fun _ _ => rfl) (pc s) (fun k => (rS', sqC r k (fun k => FC n h (lf n h s k)) b, fi, fs, c', y', nI (lf n h s k), x3, nI (pc s), nI k)) (post x3 rS' (sqC r (pc s) (fun k => FC n h (lf n h s k)) b) fi fs c' y') ?_ ?_
    · rw [sqC_0] at q
      exact q
    · intro k K hk
      obtain ⟨a1, a2, a3⟩ := lf_is hW hs k (by omega)
      have t0 : lf n h s k ≠ 0 := fun e => by rw [e, pc_0] at a3; omega
      have hle := sub_lt (s := s) (show lf n h s k < 4096 by omega) a2
      have nk : ¬ pc s ≤ k := by omega
      have up := sqC_up (r := r) (k := k) (f := fun k => FC n h (lf n h s k)) (b := b)
      have w53 := e_m53 hM hW a1 t0 hle a2 v1 hr (show k < 40 by omega) (fun a b c d e f g i j k => K (a, b, c, d, e, f, g, i, j, k)) rS' (sqC r k (fun k => FC n h (lf n h s k)) b) fs fi x3 (nI (pc s))
      show wb_X8_cheapest_43 now (nI r) post (fun a b c d e f g i j k => K (a, b, c, d, e, f, g, i, j, k)) rS' (sqC r k (fun k => FC n h (lf n h s k)) b) fi fs c' y' (nI (lf n h s k)) x3 (nI (pc s)) (nI k) = K (rS', sqC r (k + 1) (fun k => FC n h (lf n h s k)) b, fi, fs, c', y', nI (lf n h s (k + 1)), x3, nI (pc s), nI (k + 1))
      simp (disch := omega) only [wb_X8_cheapest_43, q_le, nk, w53]
      simp only [up]
      simp [lf]
    · intro K
      show wb_X8_cheapest_43 now (nI r) post (fun a b c d e f g i j k => K (a, b, c, d, e, f, g, i, j, k)) rS' _ fi fs c' y' _ x3 (nI (pc s)) (nI (pc s)) = _
      simp (disch := omega) only [wb_X8_cheapest_43, q_le]
      simp
  simp (disch := omega) only [wp_X7_cheapest, e5_hasY hr, n_1, w3, e_write hR hW hs w2 w1 hr, wp_X8_cheapest, e8_rowY hr, lay, hs2, q_in, q_cl, e_mbits, e8_row hr, hcs, m43]
  simp
  refine ⟨_, hS.mk2 (n := pc s) (by omega) (fun k hk => ?_) (fun j hj => ?_) (fun j hj => ?_)⟩
  · unfold sqC; rw [if_pos (by omega), if_pos (by omega)]
  · unfold sqC; rw [if_neg (by omega)]; exact if_neg (by omega)
  · unfold sqC; rw [if_neg (by omega)]; exact if_neg (by omega)
end CP
