/-! the reference: what its reading methods answer -/
theorem z_15 : (15 : Int32) = nI 15 := rfl
theorem z_27 : (27 : Int32) = nI 27 := rfl
theorem z_39 : (39 : Int32) = nI 39 := rfl
theorem z_51 : (51 : Int32) = nI 51 := rfl
theorem z_63 : (63 : Int32) = nI 63 := rfl
theorem z_75 : (75 : Int32) = nI 75 := rfl
theorem z_80 : (80 : Int32) = nI 80 := rfl
theorem q_sh {i : Nat} (hi : i < 31) : (1 : Int32) <<< (nI i &&& 31) = nI (2 ^ i) := q_shl i hi
theorem q_a0 (a : Nat) : nI a + (0 : Int32) = nI a := nI_add a 0
theorem q_o0 (a : Nat) : nI a ||| (0 : Int32) = nI a := by rw [z_0, q_or, Nat.or_zero]
theorem q_a9 {a : Nat} (ha : a < 2 ^ 31) : (ansI a = -9) = (a = 0) := by
  cases a with
  | zero => simp [ansI]
  | succ j =>
    apply propext
    constructor
    · intro hh
      have h1 : nI j = -9 := hh
      have h2 := nI_pos (n := j) (by omega)
      rw [h1] at h2
      exact absurd (by decide) h2
    · intro hh; omega
theorem q_aI {a i : Nat} (ha : a < 2 ^ 31) (hi : i < 2 ^ 30) : (ansI a = nI i) = (a = i + 1) := by
  cases a with
  | zero =>
    apply propext
    constructor
    · intro hh
      have h1 : (-9 : Int32) = nI i := hh
      have h2 := nI_pos (n := i) (by omega)
      rw [← h1] at h2
      exact absurd (by decide) h2
    · intro hh; omega
  | succ j =>
    show (nI j = nI i) = _
    rw [q_eq (by omega) (by omega)]
    apply propext; omega
theorem c_lt (x y : Int64) : (lg_cmp x y < 0) = (x < y) := by
  unfold lg_cmp
  simp only [gt_iff_lt, Int64.lt_iff_toInt_lt, ← Int64.toInt_inj]
  by_cases h1 : y.toInt < x.toInt
  · rw [if_pos h1]; exact propext ⟨fun h => absurd h (by decide), fun h => by omega⟩
  · rw [if_neg h1]
    by_cases h2 : x.toInt = y.toInt
    · rw [if_pos h2]; exact propext ⟨fun h => absurd h (by decide), fun h => by omega⟩
    · rw [if_neg h2]; exact propext ⟨fun _ => by omega, fun _ => by decide⟩
theorem c_gt (x y : Int64) : (0 < lg_cmp x y) = (y < x) := by
  unfold lg_cmp
  simp only [gt_iff_lt, Int64.lt_iff_toInt_lt, ← Int64.toInt_inj]
  by_cases h1 : y.toInt < x.toInt
  · rw [if_pos h1]; exact propext ⟨fun _ => h1, fun _ => by decide⟩
  · rw [if_neg h1]
    by_cases h2 : x.toInt = y.toInt
    · rw [if_pos h2]; exact propext ⟨fun h => absurd h (by decide), fun h => by omega⟩
    · rw [if_neg h2]; exact propext ⟨fun h => absurd h (by decide), fun h => by omega⟩
theorem w_lt (a b : Int32) : (a.toInt64 < b.toInt64) = (a < b) := by
  apply propext
  rw [Int64.lt_iff_toInt_lt, Int32.lt_iff_toInt_lt]
  simp
theorem e_in (x a b : Int32) (post : Int32 → Prop) : wp_X8_in x.toInt64 a.toInt64 b.toInt64 post = post (if x < a ∨ b < x then 0 else 1) := by
  unfold wp_X8_in
  rw [c_lt, c_gt, w_lt, w_lt]
  by_cases h1 : x < a
  · simp [h1]
  · by_cases h2 : b < x <;> simp [h1, h2]
theorem y_0 : (0 : Int64) = (0 : Int32).toInt64 := by decide
theorem y_1 : (1 : Int64) = (1 : Int32).toInt64 := by decide
theorem e_inL {x : Int32} (b : Int32) (h : x < 0) (post : Int32 → Prop) : wp_X8_in x.toInt64 (0 : Int64) b.toInt64 post = post 0 := by
  rw [y_0, e_in]; simp [h]
theorem e_inH {x : Int32} {b : Int32} (h : b < x) (post : Int32 → Prop) : wp_X8_in x.toInt64 (0 : Int64) b.toInt64 post = post 0 := by
  rw [y_0, e_in]; simp [h]
theorem e_inY {j b : Nat} (hj : j ≤ b) (hb : b < 2 ^ 31) (post : Int32 → Prop) : wp_X8_in (nI j).toInt64 (0 : Int64) (nI b).toInt64 post = post 1 := by
  rw [y_0, e_in]
  have h1 : ¬ nI j < 0 := nI_pos (by omega)
  have h2 : ¬ nI b < nI j := nI_nlt hj (by omega)
  simp [h1, h2]
def MH (now : Nat → Int32) (n : Nat) (h : Nat → Nat → Nat) : Prop := now 0 = nI n ∧ ∀ j, j < n → now (3 + j) = nI (h 0 j) ∧ now (15 + j) = nI (h 1 j) ∧ now (27 + j) = nI (h 2 j) ∧ now (39 + j) = nI (h 3 j) ∧ now (51 + j) = nI (h 4 j) ∧ now (63 + j) = ansI (h 5 j)
theorem e_mhas {s i : Nat} (hs : s < 2 ^ 31) (hi : i < 31) (post : Int32 → Prop) : wp_X8_has (nI s) (nI i) post = post (if s.testBit i = true then 1 else 0) := by
  unfold wp_X8_has
  rw [q_bit hs hi]
  have z1 : nI 1 = 1 := rfl
  have z0 : ¬ nI 0 = 1 := by decide
  cases s.testBit i <;> simp [z0, z1]
theorem bits_B : ∀ x, x < 64 → ∀ y, y < 64 → 64 * x + y ≠ 0 → pc ((64 * x + y) &&& (64 * x + y - 1)) + 1 = pc (64 * x + y) := by decide +kernel
theorem bits_A {s : Nat} (hs : s < 4096) (h0 : s ≠ 0) : pc (s &&& (s - 1)) + 1 = pc s := by
  have h := bits_B (s / 64) (by omega) (s % 64) (by omega)
  rw [show 64 * (s / 64) + s % 64 = s by omega] at h
  exact h h0
theorem pc_0 : pc 0 = 0 := by decide
theorem pc_eq0 {s : Nat} (hs : s < 4096) : pc s = 0 ↔ s = 0 := by
  constructor
  · intro h
    by_cases h0 : s = 0
    · exact h0
    · have := bits_A hs h0; omega
  · intro h; rw [h]; exact pc_0
theorem e_mbits {s : Nat} (hs : s < 4096) (post : Int32 → Prop) : wp_X8_bits (nI s) post = post (nI (pc s)) := by
  have key : ∀ d s c, s < 4096 → pc s = d → (∃ z, wl_X8_bits_4 post z (nI c) (nI s)) = post (nI (c + d)) := by
    intro d
    induction d with
    | zero =>
      intro s c hs hd
      have : s = 0 := (pc_eq0 hs).mp hd
      subst this
      refine lp_en (σ := Int32 × Int32) (fun K x => wb_X8_bits_4 post (fun u v => K (u, v)) x.1 x.2) (fun z x => wl_X8_bits_4 post z x.1 x.2) (fun _ => rfl) (fun _ _ => rfl) (x := (nI c, nI 0)) (fun K => ?_)
      show wb_X8_bits_4 post (fun u v => K (u, v)) (nI c) (nI 0) = _
      simp [wb_X8_bits_4, show nI 0 = 0 from rfl]
    | succ d ih =>
      intro s c hs hd
      have h0 : s ≠ 0 := fun h => by rw [h, pc_0] at hd; omega
      have h1 := bits_A hs h0
      rw [show c + (d + 1) = (c + 1) + d by omega, ← ih (s &&& (s - 1)) (c + 1) (and_lt (n := 12) hs) (by omega)]
      refine lp_st (σ := Int32 × Int32) (fun K x => wb_X8_bits_4 post (fun u v => K (u, v)) x.1 x.2) (fun z x => wl_X8_bits_4 post z x.1 x.2) (fun _ => rfl) (fun _ _ => rfl) (x := (nI c, nI s)) (y := (nI (c + 1), nI (s &&& (s - 1)))) (fun K => ?_)
      show wb_X8_bits_4 post (fun u v => K (u, v)) (nI c) (nI s) = K (nI (c + 1), nI (s &&& (s - 1)))
      have e1 : (nI s = 0) = False := by rw [z_0, q_eq (by omega) (by omega)]; simp [h0]
      have e2 : nI s - 1 = nI (s - 1) := pk_sub (a := s) (b := 1) (by omega)
      simp only [wb_X8_bits_4, e1, e2, q_and, nI_1]
      simp
  have := key (pc s) s 0 hs rfl
  rw [Nat.zero_add] at this
  exact this
section ME
variable {now : Nat → Int32} {n : Nat} {h : Nat → Nat → Nat}
theorem e_isSayingY (hR : MH now n h) (hW : HW n h) {j : Nat} (hj : j < n) (post : Int32 → Prop) : wp_X8_isSaying now (nI j) post = post 1 := by
  have hn := hW.1
  unfold wp_X8_isSaying
  rw [hR.1, show nI n - 1 = nI (n - 1) from pk_sub (a := n) (b := 1) (by omega), e_inY (by omega) (by omega)]
theorem e_isSayingN (hR : MH now n h) (hW : HW n h) {x : Int32} (hx : x < 0 ∨ nI n ≤ x) (post : Int32 → Prop) : wp_X8_isSaying now x post = post 0 := by
  have hn := hW.1
  unfold wp_X8_isSaying
  rw [hR.1]
  rcases hx with hx | hx
  · rw [e_inL _ hx]
  · by_cases h0 : n = 0
    · subst h0
      rw [y_0, e_in]
      by_cases h1 : x < 0
      · simp [h1]
      · have : nI 0 - 1 < x := by
          rw [Int32.lt_iff_toInt_lt]
          have h2 : ¬ x.toInt < 0 := fun hh => h1 (by rw [Int32.lt_iff_toInt_lt]; simpa using hh)
          show (-1 : Int) < x.toInt
          omega
        simp [this]
    · rw [show nI n - 1 = nI (n - 1) from pk_sub (a := n) (b := 1) (by omega)]
      rw [e_inH]
      rw [Int32.lt_iff_toInt_lt]
      rw [Int32.le_iff_toInt_le] at hx
      rw [nI_toInt (by omega)] at hx ⊢
      omega
theorem e_hasNumN (hW : HW n h) {x : Int32} (hx : x < 0 ∨ nI n ≤ x) (post : Int32 → Prop) : wp_X1_hasNumber (nI n) x post = post 0 := by
  unfold wp_X1_hasNumber
  rcases hx with hx | hx
  · simp [hx]
  · by_cases h1 : x < 0 <;> simp [h1, hx]
theorem e_isBetween (hR : MH now n h) (hW : HW n h) {i p q : Nat} (hi : i < n) (hp : p < 6) (hq : q < 6) (post : Int32 → Prop) : wp_X8_isBetween now (nI i) (nI p) (nI q) post = post (if btw h p q i = true then 1 else 0) := by
  have hn := hW.1
  have hb := hW.2 i hi
  obtain ⟨r0, r1, r2, r3, r4, r5⟩ := hR.2 i hi
  simp (disch := omega) only [wp_X8_isBetween, wb_X8_isBetween_26, z_15, z_27, nI_add, q_in, q_cl, r1, r2, q_eq]
  by_cases c1 : h 1 i = p <;> by_cases c2 : h 2 i = q <;> by_cases c3 : h 1 i = q <;> by_cases c4 : h 2 i = p <;> simp [btw, c1, c2, c3, c4, ic1, ic2] <;> (by_cases z : q = p <;> simp_all)
theorem e_mheat (hR : MH now n h) (hW : HW n h) {i s : Nat} (hi : i < n) (hs : s < 4096) (post : Int32 → Prop) : wp_X8_heat now (nI i) (nI s) post = post (nI (heatS n h s i)) := by
  have hn := hW.1
  have hbi := hW.2 i hi
  obtain ⟨q0, q1, q2, q3, q4, q5⟩ := hR.2 i hi
  refine lpG (σ := Int32 × Int32) (fun K x => wb_X8_heat_5 now (nI i) (nI s) post (fun u v => K (u, v)) x.1 x.2) (fun z x => wl_X8_heat_5 now (nI i) (nI s) post z x.1 x.2) (fun _ => rfl) (fun _ _ => rfl) n (fun k => (nI (cn k (fun e => oth h i e && s.testBit e)), nI k)) _ (fun k K hk => ?_) (fun K => ?_)
  · have nk : ¬ n ≤ k := by omega
    show wb_X8_heat_5 now (nI i) (nI s) post (fun u v => K (u, v)) (nI (cn k (fun e => oth h i e && s.testBit e))) (nI k) = K (nI (cn (k + 1) (fun e => oth h i e && s.testBit e)), nI (k + 1))
    simp (disch := omega) only [wb_X8_heat_5, hR.1, q_le, q_eq, e_mhas, q_if0, z_15, z_27, nI_add, q_in, q_cl, q1, q2, e_isBetween hR hW, q_a0, nI_1, nk]
    by_cases c1 : k = i <;> cases c2 : s.testBit k <;> cases c3 : btw h (h 1 i) (h 2 i) k <;> simp [cn, oth, c1, c2, c3]
    all_goals simp_all
  · show wb_X8_heat_5 now (nI i) (nI s) post (fun u v => K (u, v)) _ (nI n) = _
    simp (disch := omega) only [wb_X8_heat_5, hR.1, q_le]
    simp [heatS]
theorem e_mprice (hR : MH now n h) (hW : HW n h) {i s : Nat} (hi : i < n) (hs : s < 4096) (post : Int32 → Prop) : wp_X8_price now (nI i) (nI s) post = post (nI (priceS n h s i)) := by
  have hn := hW.1
  have hb := hW.2 i hi
  have ht := heat_le s i hW
  obtain ⟨r0, r1, r2, r3, r4, r5⟩ := hR.2 i hi
  unfold wp_X8_price
  rw [e_mheat hR hW hi hs]
  simp (disch := omega) only [wb_X8_price_96, z_1, z_2, z_3, z_4, z_5, z_39, z_51, nI_add, q_in, q_cl, r0, r3, r4, q_eq, pk_mul, pk_div]
  have hk : h 0 i = 0 ∨ h 0 i = 1 ∨ h 0 i = 2 ∨ h 0 i = 3 ∨ h 0 i = 4 ∨ h 0 i = 5 := by omega
  rcases hk with e | e | e | e | e | e <;> simp [priceS, prc, e]
theorem e_answering (hR : MH now n h) (hW : HW n h) {i s : Nat} (hi : i < n) (hs : s < 4096) (post : Int32 → Prop) : wp_X8_answering now (nI i) (nI s) post = post (nI (nAns n h s i)) := by
  have hn := hW.1
  refine lpG (σ := Int32 × Int32) (fun K x => wb_X8_answering_5 now (nI i) (nI s) post (fun u v => K (u, v)) x.1 x.2) (fun z x => wl_X8_answering_5 now (nI i) (nI s) post z x.1 x.2) (fun _ => rfl) (fun _ _ => rfl) n (fun k => (nI (cn k (fun e => s.testBit e && ansB h i e)), nI k)) _ (fun k K hk => ?_) (fun K => ?_)
  · have nk : ¬ n ≤ k := by omega
    have h1 := hW.an hk
    obtain ⟨r0, r1, r2, r3, r4, r5⟩ := hR.2 k hk
    show wb_X8_answering_5 now (nI i) (nI s) post (fun u v => K (u, v)) (nI (cn k (fun e => s.testBit e && ansB h i e))) (nI k) = K (nI (cn (k + 1) (fun e => s.testBit e && ansB h i e)), nI (k + 1))
    simp (disch := omega) only [wb_X8_answering_5, hR.1, q_le, e_mhas, q_if0, z_63, nI_add, q_in, q_cl, r5, q_aI, q_a0, nI_1, nk]
    cases c2 : s.testBit k <;> by_cases c3 : h 5 k = i + 1 <;> simp [cn, ansB, c2, c3]
  · show wb_X8_answering_5 now (nI i) (nI s) post (fun u v => K (u, v)) _ (nI n) = _
    simp (disch := omega) only [wb_X8_answering_5, hR.1, q_le]
    simp [nAns]
theorem e_mayBe (hR : MH now n h) (hW : HW n h) {i s : Nat} (hi : i < n) (hs : s < 4096) (post : Int32 → Prop) : wp_X8_mayBe now (nI i) (nI s) post = post (if mayS n h s i = true then 1 else 0) := by
  have hn := hW.1
  have hb := hW.2 i hi
  have hc : nAns n h s i ≤ 12 := Nat.le_trans (cn_le n _) hn
  obtain ⟨r0, r1, r2, r3, r4, r5⟩ := hR.2 i hi
  have e0 : (nI (nAns n h s i) = 0) = (nAns n h s i = 0) := by rw [z_0, q_eq (by omega) (by omega)]
  simp (disch := omega) only [wp_X8_mayBe, e_mhas, q_if0, z_3, nI_add, q_in, q_cl, r0, z_4, q_eq, e_answering hR hW, e0]
  cases c1 : s.testBit i <;> by_cases c2 : h 0 i = 4 <;> by_cases c3 : nAns n h s i = 0 <;> simp [mayS, c1, c2, c3]
theorem e_allThatMay (hR : MH now n h) (hW : HW n h) {s : Nat} (hs : s < 4096) (post : Int32 → Prop) : wp_X8_allThatMay now (nI s) post = post (nI (frees n h s)) := by
  have hn := hW.1
  refine lpG (σ := Int32 × Int32) (fun K x => wb_X8_allThatMay_4 now (nI s) post (fun u v => K (u, v)) x.1 x.2) (fun z x => wl_X8_allThatMay_4 now (nI s) post z x.1 x.2) (fun _ => rfl) (fun _ _ => rfl) n (fun k => (nI (bm k (mayS n h s)), nI k)) _ (fun k K hk => ?_) (fun K => ?_)
  · have nk : ¬ n ≤ k := by omega
    show wb_X8_allThatMay_4 now (nI s) post (fun u v => K (u, v)) (nI (bm k (mayS n h s))) (nI k) = K (nI (bm (k + 1) (mayS n h s)), nI (k + 1))
    simp (disch := omega) only [wb_X8_allThatMay_4, hR.1, q_le, e_mayBe hR hW, q_if0, q_sh, q_or, q_o0, nI_1, nk]
    cases c : mayS n h s k <;> simp [bm, c]
  · show wb_X8_allThatMay_4 now (nI s) post (fun u v => K (u, v)) _ (nI n) = _
    simp (disch := omega) only [wb_X8_allThatMay_4, hR.1, q_le]
    simp [frees]
theorem e_leansOf (hR : MH now n h) (hW : HW n h) {i : Nat} (hi : i < n) (post : Int32 → Prop) : wp_X8_leansOf now (nI i) post = post (nI (leanS h i)) := by
  have hn := hW.1
  have key : ∀ f a acc, a ≤ f → a ≤ n → (∃ z, wl_X8_leansOf_12 now post z (nI acc) (ansI a)) = post (nI (acc ||| leanA h f a)) := by
    intro f
    induction f with
    | zero =>
      intro a acc ha han
      have : a = 0 := by omega
      subst this
      refine lp_en (σ := Int32 × Int32) (fun K x => wb_X8_leansOf_12 now post (fun u v => K (u, v)) x.1 x.2) (fun z x => wl_X8_leansOf_12 now post z x.1 x.2) (fun _ => rfl) (fun _ _ => rfl) (x := (nI acc, ansI 0)) (fun K => ?_)
      show wb_X8_leansOf_12 now post (fun u v => K (u, v)) (nI acc) (ansI 0) = _
      simp [wb_X8_leansOf_12, ansI, leanA]
    | succ f ih =>
      intro a acc ha han
      cases a with
      | zero =>
        refine lp_en (σ := Int32 × Int32) (fun K x => wb_X8_leansOf_12 now post (fun u v => K (u, v)) x.1 x.2) (fun z x => wl_X8_leansOf_12 now post z x.1 x.2) (fun _ => rfl) (fun _ _ => rfl) (x := (nI acc, ansI 0)) (fun K => ?_)
        show wb_X8_leansOf_12 now post (fun u v => K (u, v)) (nI acc) (ansI 0) = _
        simp [wb_X8_leansOf_12, ansI, leanA]
      | succ j =>
        have h1 := hW.an (show j < n by omega)
        obtain ⟨r0, r1, r2, r3, r4, r5⟩ := hR.2 j (by omega)
        rw [show leanA h (f + 1) (j + 1) = 2 ^ j ||| leanA h f (h 5 j) from rfl, ← Nat.or_assoc, ← ih (h 5 j) (acc ||| 2 ^ j) (by omega) (by omega)]
        refine lp_st (σ := Int32 × Int32) (fun K x => wb_X8_leansOf_12 now post (fun u v => K (u, v)) x.1 x.2) (fun z x => wl_X8_leansOf_12 now post z x.1 x.2) (fun _ => rfl) (fun _ _ => rfl) (x := (nI acc, ansI (j + 1))) (y := (nI (acc ||| 2 ^ j), ansI (h 5 j))) (fun K => ?_)
        show wb_X8_leansOf_12 now post (fun u v => K (u, v)) (nI acc) (ansI (j + 1)) = K (nI (acc ||| 2 ^ j), ansI (h 5 j))
        simp (disch := omega) only [wb_X8_leansOf_12, q_a9]
        simp (disch := omega) only [show ansI (j + 1) = nI j from rfl, z_63, nI_add, q_in, q_cl, q_sh, q_or, r5]
        simp
  obtain ⟨r0, r1, r2, r3, r4, r5⟩ := hR.2 i hi
  have h1 := hW.an hi
  simp (disch := omega) only [wp_X8_leansOf, z_63, nI_add, q_in, q_cl, r5, z_0, key 12]
  simp [leanS]
theorem e_rootOf (hR : MH now n h) (hW : HW n h) {i : Nat} (hi : i < n) (post : Int32 → Prop) : wp_X8_rootOf now (nI i) post = post (nI (rootS h i)) := by
  have hn := hW.1
  have key : ∀ f i, i ≤ f → i < n → (∃ z, wl_X8_rootOf_2 now post z (nI i)) = post (nI (rootA h f i)) := by
    intro f
    induction f with
    | zero =>
      intro i hif hin
      have : i = 0 := by omega
      subst this
      have h1 := hW.an hin
      obtain ⟨r0, r1, r2, r3, r4, r5⟩ := hR.2 0 hin
      have h5 : h 5 0 = 0 := by omega
      refine lp_en (σ := Int32) (fun K x => wb_X8_rootOf_2 now post K x) (fun z x => wl_X8_rootOf_2 now post z x) (fun _ => rfl) (fun _ _ => rfl) (x := nI 0) (fun K => ?_)
      simp (disch := omega) only [wb_X8_rootOf_2, z_63, nI_add, q_in, q_cl, r5, q_a9, h5]
      simp [rootA]
    | succ f ih =>
      intro i hif hin
      have h1 := hW.an hin
      obtain ⟨r0, r1, r2, r3, r4, r5⟩ := hR.2 i hin
      cases h5 : h 5 i with
      | zero =>
        refine lp_en (σ := Int32) (fun K x => wb_X8_rootOf_2 now post K x) (fun z x => wl_X8_rootOf_2 now post z x) (fun _ => rfl) (fun _ _ => rfl) (x := nI i) (fun K => ?_)
        simp (disch := omega) only [wb_X8_rootOf_2, z_63, nI_add, q_in, q_cl, r5, q_a9, h5]
        simp [rootA, h5]
      | succ j =>
        rw [show rootA h (f + 1) i = rootA h f j by simp [rootA, h5], ← ih j (by omega) (by omega)]
        refine lp_st (σ := Int32) (fun K x => wb_X8_rootOf_2 now post K x) (fun z x => wl_X8_rootOf_2 now post z x) (fun _ => rfl) (fun _ _ => rfl) (x := nI i) (y := nI j) (fun K => ?_)
        simp (disch := omega) only [wb_X8_rootOf_2, z_63, nI_add, q_in, q_cl, r5, q_a9, h5]
        simp [show ansI (j + 1) = nI j from rfl]
  exact key 12 i (by omega) hi
end ME
