/-! longest -/
theorem SH.mk2 {k w : Nat} {m : Nat → Nat} {sz cl sz' cl' : Nat → Int32} (h : SH k w m sz cl sz' cl') {r n : Nat} (hn : n ≤ w) {c1 c2 : Nat → Int32}
    (h12 : ∀ i, i < n → c1 (w * r + i) = c2 (w * r + i)) (o1 : ∀ j, ¬ (w * r ≤ j ∧ j < w * r + w) → c1 j = cl j) (o2 : ∀ j, ¬ (w * r ≤ j ∧ j < w * r + w) → c2 j = cl' j) :
    SH k w (fun x => if x = r then n + 1 else m x) (upd sz r (nI n)) c1 (upd sz' r (nI n)) c2 := by
  intro x hx
  by_cases hxr : x = r
  · subst hxr
    refine ⟨by simp; omega, by simp [upd, szI], by simp [upd, szI], fun i hi => ?_⟩
    have hi : i < n := by simpa using hi
    exact h12 i hi
  · obtain ⟨a, b, c, d⟩ := h x hx
    refine ⟨by simpa [hxr] using a, by simpa [upd, hxr] using b, by simpa [upd, hxr] using c, fun i hi => ?_⟩
    have hi : i + 1 < m x := by simpa [hxr] using hi
    have hne : ¬ (w * r ≤ w * x + i ∧ w * x + i < w * r + w) := by
      rintro ⟨p1, p2⟩
      rcases Nat.lt_or_gt_of_ne hxr with q | q
      · have : w * x + w ≤ w * r := by rw [← Nat.mul_succ]; exact Nat.mul_le_mul_left w q
        omega
      · have : w * r + w ≤ w * x := by rw [← Nat.mul_succ]; exact Nat.mul_le_mul_left w q
        omega
    rw [o1 _ hne, o2 _ hne]
    exact d i hi
theorem top_tb {X j e : Nat} (hX : X < 2 ^ j) : (2 ^ j ||| X).testBit e = if e = j then true else X.testBit e := by
  rw [Nat.testBit_or, Nat.testBit_two_pow]
  by_cases h : j = e
  · subst h; simp
  · have : ¬ e = j := fun z => h z.symm
    simp [h, this]
theorem top_cn {X j : Nat} (hX : X < 2 ^ j) : ∀ k, k ≤ j → cn k (fun e => (2 ^ j ||| X).testBit e) = cn k (fun e => X.testBit e) := by
  intro k hk
  refine cn_congr fun e he => ?_
  rw [top_tb hX, if_neg (by omega)]
theorem top_pc {X j : Nat} (hX : X < 2 ^ j) (hj : j < 12) : pc (2 ^ j ||| X) = pc X + 1 ∧ cn j (fun e => X.testBit e) = pc X := by
  have h1 : cn j (fun e => X.testBit e) = pc X := (cn_ext (n := j) (N := 12) (P := fun e => X.testBit e) (by omega) (fun e he => lt_tb hX he)).symm
  refine ⟨?_, h1⟩
  show cn 12 (fun e => (2 ^ j ||| X).testBit e) = _
  rw [cn_ext (n := j + 1) (N := 12) (P := fun e => (2 ^ j ||| X).testBit e) (by omega) (fun e he => by show (2 ^ j ||| X).testBit e = false; rw [top_tb hX, if_neg (by omega)]; exact lt_tb hX (by omega))]
  rw [cn_s1 (P := fun e => (2 ^ j ||| X).testBit e) (by show (2 ^ j ||| X).testBit j = true; rw [top_tb hX, if_pos rfl]), top_cn hX j (Nat.le_refl j), h1]
theorem top_nth {X j p : Nat} (hX : X < 2 ^ j) (hj : j < 12) (hp : p < pc X + 1) : nth (2 ^ j ||| X) p = if p = pc X then j else nth X p := by
  obtain ⟨q1, q2⟩ := top_pc hX hj
  by_cases h : p = pc X
  · rw [if_pos h]
    refine nth_is hj (by rw [top_tb hX, if_pos rfl]) ?_
    rw [top_cn hX j (Nat.le_refl j), q2, h]
  · rw [if_neg h]
    obtain ⟨a, b, c⟩ := nth_lt (s := X) (p := p) (by omega)
    have hl : nth X p < j := tb_lt hX b
    refine nth_is a (by rw [top_tb hX, if_neg (by omega)]; exact b) ?_
    rw [top_cn hX _ (by omega), c]
section HEB
variable {kinds whos toWhoms topics weights answered now : Nat → Int32} {n : Nat} {h : Nat → Nat → Nat}
theorem dF_is (h : Nat → Nat → Nat) : ∀ k, (k = 0 ∧ dF h k = 0 ∧ dM h k = 0) ∨ ∃ i, i < k ∧ dF h k = i + 1 ∧ dM h k = pc (leanS h i) + 1 := by
  intro k
  induction k with
  | zero => exact Or.inl ⟨rfl, rfl, rfl⟩
  | succ k ih =>
    right
    simp only [dF, dM]
    by_cases c : pc (leanS h k) + 1 ≤ dM h k
    · rw [if_pos c, if_pos c]
      rcases ih with ⟨_, _, b⟩ | ⟨i, a, b, d⟩
      · omega
      · exact ⟨i, by omega, b, d⟩
    · rw [if_neg c, if_neg c]
      exact ⟨k, by omega, rfl, rfl⟩
theorem e_mlong (hM : MH now n h) (hW : HW n h) (r : Int32) (post : Int32 → (Nat → Int32) → (Nat → Int32) → Int32 → (Nat → Int32) → Prop) (rS rw fs : Nat → Int32) (fi : Int32) : (∃ zn, wl_X8_longest_17 now r post zn rS rw fi fs 0 (-9) 0) = wp_X8_row rS rw fi fs r (nI (dM h n)) (fun r2 rowSizes_3 rows_4 finding_5 findings_6 => ∃ zn, wl_X8_longest_87 now r post zn rowSizes_3 rows_4 finding_5 findings_6 (ansI (dF h n)) r2 (r2 - (1 : Int32))) := by
  have hn := hW.1
  refine lpG (σ := (Nat → Int32) × (Nat → Int32) × Int32 × (Nat → Int32) × Int32 × Int32 × Int32) (fun K x => wb_X8_longest_17 now r post (fun a b c d e f g => K (a, b, c, d, e, f, g)) x.1 x.2.1 x.2.2.1 x.2.2.2.1 x.2.2.2.2.1 x.2.2.2.2.2.1 x.2.2.2.2.2.2) (fun z x => wl_X8_longest_17 now r post z x.1 x.2.1 x.2.2.1 x.2.2.2.1 x.2.2.2.2.1 x.2.2.2.2.2.1 x.2.2.2.2.2.2) (fun _ => rfl) (fun _ _ => rfl) n (fun k => (rS, rw, fi, fs, nI (dM h k), ansI (dF h k), nI k)) _ (fun k K hk => ?_) (fun K => ?_)
  · have nk : ¬ n ≤ k := by omega
    have hl := leanS_lt hW hk
    have h1 := dM_le h k
    have h2 := pc_le (leanS h k)
    show wb_X8_longest_17 now r post (fun a b c d e f g => K (a, b, c, d, e, f, g)) rS rw fi fs (nI (dM h k)) (ansI (dF h k)) (nI k) = K (rS, rw, fi, fs, nI (dM h (k + 1)), ansI (dF h (k + 1)), nI (k + 1))
    have e1 : (1 : Int32) + nI (pc (leanS h k)) = nI (pc (leanS h k) + 1) := by rw [show (1 : Int32) = nI 1 from rfl, nI_add, Nat.add_comm]
    simp (disch := omega) only [wb_X8_longest_17, hM.1, q_le, nk, e_leansOf hM hW, e_mbits, e1, wb_X8_longest_53, nI_1]
    by_cases c : pc (leanS h k) + 1 ≤ dM h k
    · simp [dF, dM, c]
    · simp [dF, dM, c, ansI]
  · show wb_X8_longest_17 now r post (fun a b c d e f g => K (a, b, c, d, e, f, g)) rS rw fi fs _ _ (nI n) = _
    simp (disch := omega) only [wb_X8_longest_17, hM.1, q_le]
    simp
/-- a row's cells, the chain laid from place p up to place L -/
def chC (r p L C : Nat) (b : Nat → Int32) : Nat → Int32 := fun x => if 40 * r + p ≤ x ∧ x < 40 * r + L then nI (nth C (x - 40 * r)) else b x
theorem chC_dn {r p L C : Nat} {b : Nat → Int32} (hp : p < L) : upd (chC r (p + 1) L C b) (40 * r + p) (nI (nth C p)) = chC r p L C b := by
  funext x
  show (if x = 40 * r + p then nI (nth C p) else (if 40 * r + (p + 1) ≤ x ∧ x < 40 * r + L then nI (nth C (x - 40 * r)) else b x)) = if 40 * r + p ≤ x ∧ x < 40 * r + L then nI (nth C (x - 40 * r)) else b x
  by_cases h1 : x = 40 * r + p
  · rw [if_pos h1, if_pos (by omega), h1, show 40 * r + p - 40 * r = p by omega]
  · rw [if_neg h1]
    by_cases h2 : 40 * r + p ≤ x ∧ x < 40 * r + L
    · rw [if_pos h2, if_pos (by omega)]
    · rw [if_neg h2, if_neg (by omega)]
theorem chC_up {r L C : Nat} {b : Nat → Int32} : upd (chC r 0 L C b) (40 * r + L) (nI (nth C L)) = chC r 0 (L + 1) C b := by
  funext x
  show (if x = 40 * r + L then nI (nth C L) else (if 40 * r + 0 ≤ x ∧ x < 40 * r + L then nI (nth C (x - 40 * r)) else b x)) = if 40 * r + 0 ≤ x ∧ x < 40 * r + (L + 1) then nI (nth C (x - 40 * r)) else b x
  by_cases h1 : x = 40 * r + L
  · rw [if_pos h1, if_pos (by omega), h1, show 40 * r + L - 40 * r = L by omega]
  · rw [if_neg h1]
    by_cases h2 : 40 * r + 0 ≤ x ∧ x < 40 * r + L
    · rw [if_pos h2, if_pos (by omega)]
    · rw [if_neg h2, if_neg (by omega)]
theorem e_mchain (hM : MH now n h) (hW : HW n h) {r L C : Nat} (hr : r < 6) (hL : L ≤ 12) (post : Int32 → (Nat → Int32) → (Nat → Int32) → Int32 → (Nat → Int32) → Prop) (rS b fs : Nat → Int32) (fi : Int32) : ∀ p a f, p ≤ L → a ≤ n → a ≤ f → pc (leanA h f a) = p → (∀ q, q < p → nth C q = nth (leanA h f a) q) → (∃ zn, wl_X8_longest_87 now (nI r) post zn rS (chC r p L C b) fi fs (ansI a) (nI L) (nI p - 1)) = post (nI L) rS (chC r 0 L C b) fi fs := by
  have hn := hW.1
  intro p
  induction p with
  | zero =>
    intro a f h1 h2 h3 h4 h5
    refine lp_en (σ := (Nat → Int32) × (Nat → Int32) × Int32 × (Nat → Int32) × Int32 × Int32 × Int32) (fun K x => wb_X8_longest_87 now (nI r) post (fun a b c d e f g => K (a, b, c, d, e, f, g)) x.1 x.2.1 x.2.2.1 x.2.2.2.1 x.2.2.2.2.1 x.2.2.2.2.2.1 x.2.2.2.2.2.2) (fun z x => wl_X8_longest_87 now (nI r) post z x.1 x.2.1 x.2.2.1 x.2.2.2.1 x.2.2.2.2.1 x.2.2.2.2.2.1 x.2.2.2.2.2.2) (fun _ => rfl) (fun _ _ => rfl) (x := (rS, chC r 0 L C b, fi, fs, ansI a, nI L, nI 0 - 1)) (fun K => ?_)
    have e : (nI 0 - 1 : Int32) < 0 := by decide
    show wb_X8_longest_87 now (nI r) post (fun a b c d e f g => K (a, b, c, d, e, f, g)) rS (chC r 0 L C b) fi fs (ansI a) (nI L) (nI 0 - 1) = _
    simp only [wb_X8_longest_87, e]
    simp
  | succ p ih =>
    intro a f h1 h2 h3 h4 h5
    cases f with
    | zero =>
      have : pc (leanA h 0 a) = 0 := pc_0
      omega
    | succ f =>
      cases a with
      | zero => rw [leanA_0, pc_0] at h4; omega
      | succ j =>
        have hj := hW.an (show j < n by omega)
        have hX : leanA h f (h 5 j) < 2 ^ j := Nat.lt_of_lt_of_le (leanA_lt hW f (h 5 j) (by omega)) (Nat.pow_le_pow_right (by decide) hj)
        have hc : leanA h (f + 1) (j + 1) = 2 ^ j ||| leanA h f (h 5 j) := rfl
        rw [hc] at h4 h5
        obtain ⟨t1, t2⟩ := top_pc hX (show j < 12 by omega)
        have hp : pc (leanA h f (h 5 j)) = p := by omega
        have ecell : nth C p = j := by
          rw [h5 p (by omega), top_nth hX (by omega) (by omega), if_pos hp.symm]
        have step := ih (h 5 j) f (by omega) (by omega) (by omega) hp (fun q hq => by
          rw [h5 q (by omega), top_nth hX (by omega) (by omega), if_neg (by omega)])
        rw [← step, ← chC_dn (show p < L by omega), ecell, nI_pred]
        obtain ⟨r0, r1, r2, r3, r4, r5⟩ := hM.2 j (by omega)
        refine lp_st (σ := (Nat → Int32) × (Nat → Int32) × Int32 × (Nat → Int32) × Int32 × Int32 × Int32) (fun K x => wb_X8_longest_87 now (nI r) post (fun a b c d e f g => K (a, b, c, d, e, f, g)) x.1 x.2.1 x.2.2.1 x.2.2.2.1 x.2.2.2.2.1 x.2.2.2.2.2.1 x.2.2.2.2.2.2) (fun z x => wl_X8_longest_87 now (nI r) post z x.1 x.2.1 x.2.2.1 x.2.2.2.1 x.2.2.2.2.1 x.2.2.2.2.2.1 x.2.2.2.2.2.2) (fun _ => rfl) (fun _ _ => rfl) (x := (rS, chC r (p + 1) L C b, fi, fs, nI j, nI L, nI p)) (y := (rS, upd (chC r (p + 1) L C b) (40 * r + p) (nI j), fi, fs, ansI (h 5 j), nI L, nI p - 1)) (fun K => ?_)
        show wb_X8_longest_87 now (nI r) post (fun a b c d e f g => K (a, b, c, d, e, f, g)) rS (chC r (p + 1) L C b) fi fs (nI j) (nI L) (nI p) = K (rS, upd (chC r (p + 1) L C b) (40 * r + p) (nI j), fi, fs, ansI (h 5 j), nI L, nI p - 1)
        simp (disch := omega) only [wb_X8_longest_87, q_lt0, z_40, pk_mul, nI_add, q_in, q_cl, z_63, r5, q_am1]
        simp
theorem s_longest (hR : HR kinds whos toWhoms topics weights answered n h) (hM : MH now n h) (hW : HW n h) {m : Nat → Nat} {rs rc rS rw : Nat → Int32} (hS : SH 6 40 m rs rc rS rw) (fi : Int32) (fs : Nat → Int32) (r : Int32) : wp_X7_longest 6 240 (nI 40) rs rc answered (nI n) r (fun a rs' rc' => wp_X8_longest rS rw now fi fs r (fun a' rS' rw' fi' fs' => a = a' ∧ (∃ m', SH 6 40 m' rs' rc' rS' rw') ∧ fi' = fi ∧ fs' = fs)) := by
  have hn := hW.1
  rcases pk_ix r (n := 6) (by decide) with hr | hr | ⟨r, hr, rfl⟩
  · simp only [wp_X7_longest, e5_hasN (k := 6) (Or.inl hr), wp_X8_longest, e8_rowN (Or.inl hr)]
    simp
    exact ⟨m, hS⟩
  · simp only [wp_X7_longest, e5_hasN (k := 6) (Or.inr hr), wp_X8_longest, e8_rowN (Or.inr hr)]
    simp
    exact ⟨m, hS⟩
  have o1 : ∀ (b : Nat → Int32) (L C : Nat), L ≤ 40 → (∀ j, ¬ (40 * r ≤ j ∧ j < 40 * r + 40) → b j = b j) → ∀ j, ¬ (40 * r ≤ j ∧ j < 40 * r + 40) → chC r 0 L C b j = b j := fun b L C hL _ j hj => by
    unfold chC; rw [if_neg (by omega)]
  rcases dF_is h n with ⟨a, b, c⟩ | ⟨i, a, b, c⟩
  · have e0 : nI 0 - 1 < (0 : Int32) := by decide
    have m87 : ∀ post : Int32 → (Nat → Int32) → (Nat → Int32) → Int32 → (Nat → Int32) → Prop, ∀ rS' rw' : Nat → Int32, (∃ zn, wl_X8_longest_87 now (nI r) post zn rS' rw' fi fs (ansI 0) (nI 0) (nI 0 - 1)) = post (nI 0) rS' rw' fi fs := by
      intro post rS' rw'
      refine lp_en (σ := (Nat → Int32) × (Nat → Int32) × Int32 × (Nat → Int32) × Int32 × Int32 × Int32) (fun K x => wb_X8_longest_87 now (nI r) post (fun a b c d e f g => K (a, b, c, d, e, f, g)) x.1 x.2.1 x.2.2.1 x.2.2.2.1 x.2.2.2.2.1 x.2.2.2.2.2.1 x.2.2.2.2.2.2) (fun z x => wl_X8_longest_87 now (nI r) post z x.1 x.2.1 x.2.2.1 x.2.2.2.1 x.2.2.2.2.1 x.2.2.2.2.2.1 x.2.2.2.2.2.2) (fun _ => rfl) (fun _ _ => rfl) (x := (rS', rw', fi, fs, ansI 0, nI 0, nI 0 - 1)) (fun K => ?_)
      show wb_X8_longest_87 now (nI r) post (fun a b c d e f g => K (a, b, c, d, e, f, g)) rS' rw' fi fs (ansI 0) (nI 0) (nI 0 - 1) = _
      simp only [wb_X8_longest_87, e0]
      simp
    have d9 : (ansI 0 = -9) = True := eq_true rfl
    have mk : ∀ post, wp_X5_makeAnew 6 240 (nI 40) rs rc (nI r) 0 0 post = post (upd rs r (nI 0)) (fun j => if 40 * r ≤ j ∧ j < 40 * r + 0 then 0 else rc j) := fun post => e5_make (n := 0) hr (by omega) (by omega) (by omega) (by omega) (by omega) post
    simp (disch := omega) only [wp_X7_longest, e5_hasY hr, n_1, e_deepest hR hW, b, d9, mk, wp_X8_longest, e8_rowY hr, e_mlong hM hW, c, e8_row hr, m87]
    simp
    exact ⟨rfl, _, hS.mk2 (n := 0) (by omega) (fun i hi => by omega) (fun j hj => if_neg (by omega)) (fun j hj => by simp [hj])⟩
  · have hl := leanS_lt hW a
    have h1 := hW.an a
    have hc : leanA h 13 (i + 1) = 2 ^ i ||| leanS h i := rfl
    have hX : leanS h i < 2 ^ i := Nat.lt_of_lt_of_le (leanA_lt hW 12 (h 5 i) (by omega)) (Nat.pow_le_pow_right (by decide) h1)
    obtain ⟨t1, t2⟩ := top_pc hX (show i < 12 by omega)
    have hC : leanS h i ||| 2 ^ i = leanA h 13 (i + 1) := by rw [hc, Nat.or_comm]
    have hL : pc (leanA h 13 (i + 1)) = pc (leanS h i) + 1 := by rw [hc]; exact t1
    have hl12 : pc (leanS h i) + 1 ≤ 12 := by rw [← hL]; exact pc_le _
    have hCl : leanA h 13 (i + 1) < 4096 := by rw [hc]; exact or_lt (n := 12) (pw_lt (by omega)) hl
    have d9 : (nI i = -9) = False := by rw [← show ansI (i + 1) = nI i from rfl, q_a9 (by omega)]; simp
    have x7 : ∀ post : Int32 → (Nat → Int32) → (Nat → Int32) → Prop, ∀ sz b : Nat → Int32, (∃ zn, wl_X7_longest_73 240 (nI 40) (nI r) post zn sz b (nI (leanA h 13 (i + 1))) (nI (pc (leanS h i) + 1)) 0) = post (nI (pc (leanS h i) + 1)) sz (chC r 0 (pc (leanS h i) + 1) (leanA h 13 (i + 1)) b) := by
      intro post sz b
      have q := lpG (σ := (Nat → Int32) × (Nat → Int32) × Int32 × Int32 × Int32) (fun K x => wb_X7_longest_73 240 (nI 40) (nI r) post (fun a b c d e => K (a, b, c, d, e)) x.1 x.2.1 x.2.2.1 x.2.2.2.1 x.2.2.2.2) (fun z x => wl_X7_longest_73 240 (nI 40) (nI r) post z x.1 x.2.1 x.2.2.1 x.2.2.2.1 x.2.2.2.2) (fun _ => rfl) (fun _ _ => rfl) (pc (leanS h i) + 1) (fun k => (sz, chC r 0 k (leanA h 13 (i + 1)) b, nI (leanA h 13 (i + 1)), nI (pc (leanS h i) + 1), nI k)) (post (nI (pc (leanS h i) + 1)) sz (chC r 0 (pc (leanS h i) + 1) (leanA h 13 (i + 1)) b)) ?_ ?_
      · have e0 : chC r 0 0 (leanA h 13 (i + 1)) b = b := by
          funext x; unfold chC; rw [if_neg (by omega)]
        rw [e0] at q
        exact q
      · intro k K hk
        have nk : ¬ pc (leanS h i) + 1 ≤ k := by omega
        show wb_X7_longest_73 240 (nI 40) (nI r) post (fun a b c d e => K (a, b, c, d, e)) sz (chC r 0 k (leanA h 13 (i + 1)) b) (nI (leanA h 13 (i + 1))) (nI (pc (leanS h i) + 1)) (nI k) = K (sz, chC r 0 (k + 1) (leanA h 13 (i + 1)) b, nI (leanA h 13 (i + 1)), nI (pc (leanS h i) + 1), nI (k + 1))
        simp (disch := omega) only [wb_X7_longest_73, q_le, nk, e_numberAt hCl (show k < pc (leanA h 13 (i + 1)) by omega), e5_setCell, chC_up, nI_1]
        simp
      · intro K
        show wb_X7_longest_73 240 (nI 40) (nI r) post (fun a b c d e => K (a, b, c, d, e)) sz _ (nI (leanA h 13 (i + 1))) (nI (pc (leanS h i) + 1)) (nI (pc (leanS h i) + 1)) = _
        simp (disch := omega) only [wb_X7_longest_73, q_le]
        simp
    have x8 := fun post rS' b' => e_mchain hM hW (r := r) (L := pc (leanS h i) + 1) (C := leanA h 13 (i + 1)) hr hl12 post rS' b' fs fi (pc (leanS h i) + 1) (i + 1) 13 (Nat.le_refl _) (by omega) (by omega) hL (fun q _ => rfl)
    have e0 : ∀ b : Nat → Int32, chC r (pc (leanS h i) + 1) (pc (leanS h i) + 1) (leanA h 13 (i + 1)) b = b := fun b => by
      funext x; unfold chC; rw [if_neg (by omega)]
    simp only [e0] at x8
    simp (disch := omega) only [wp_X7_longest, e5_hasY hr, n_1, e_deepest hR hW, b, d9, show ansI (i + 1) = nI i from rfl, e_leanedOn hR hW, e_bit, q_or, hC, e_bc, hL, e5_make, x7, wp_X8_longest, e8_rowY hr, e_mlong hM hW, c, e8_row hr]
    rw [show ansI (i + 1) = nI i from rfl] at x8
    simp only [x8]
    simp
    refine ⟨_, hS.mk2 (n := pc (leanS h i) + 1) (by omega) (fun k hk => ?_) (fun j hj => ?_) (fun j hj => ?_)⟩
    · unfold chC; rw [if_pos (by omega), if_pos (by omega)]
    · unfold chC; rw [if_neg (by omega)]; exact if_neg (by omega)
    · unfold chC; rw [if_neg (by omega)]; exact if_neg (by omega)
end HEB
