/-! Heap: leaning, bundles, persons -/
def orM : Nat → (Nat → Bool) → (Nat → Nat) → Nat
  | 0, _, _ => 0
  | k + 1, P, f => if P k then orM k P f ||| f k else orM k P f
def sumM : Nat → (Nat → Bool) → (Nat → Nat) → Nat
  | 0, _, _ => 0
  | k + 1, P, f => if P k then sumM k P f + f k else sumM k P f
theorem orM_lt {n N : Nat} {P : Nat → Bool} {f : Nat → Nat} (hf : ∀ e, e < n → P e = true → f e < 2 ^ N) : orM n P f < 2 ^ N := by
  induction n with
  | zero => exact Nat.two_pow_pos N
  | succ n ih =>
    have := ih (fun e he => hf e (by omega))
    simp only [orM]
    by_cases hp : P n = true
    · rw [if_pos hp]; exact or_lt this (hf n (by omega) hp)
    · rw [if_neg hp]; exact this
theorem orM_congr {n : Nat} {P Q : Nat → Bool} {f g : Nat → Nat} (h : ∀ e, e < n → P e = Q e) (hf : ∀ e, e < n → P e = true → f e = g e) : orM n P f = orM n Q g := by
  induction n with
  | zero => rfl
  | succ n ih =>
    simp only [orM]
    rw [ih (fun e he => h e (by omega)) (fun e he => hf e (by omega)), h n (by omega)]
    by_cases hp : Q n = true
    · rw [if_pos hp, if_pos hp, hf n (by omega) (by rw [h n (by omega)]; exact hp)]
    · rw [if_neg hp, if_neg hp]
theorem sumM_le {n B : Nat} {P : Nat → Bool} {f : Nat → Nat} (hf : ∀ e, e < n → f e ≤ B) : sumM n P f ≤ n * B := by
  induction n with
  | zero => simp [sumM]
  | succ n ih =>
    have h1 := ih (fun e he => hf e (by omega))
    have h2 := hf n (by omega)
    have h3 : (n + 1) * B = n * B + B := by rw [Nat.add_mul, Nat.one_mul]
    simp only [sumM]
    split <;> omega
theorem sumM_congr {n : Nat} {P Q : Nat → Bool} {f g : Nat → Nat} (h : ∀ e, e < n → P e = Q e) (hf : ∀ e, e < n → f e = g e) : sumM n P f = sumM n Q g := by
  induction n with
  | zero => rfl
  | succ n ih => simp only [sumM]; rw [ih (fun e he => h e (by omega)) (fun e he => hf e (by omega)), h n (by omega), hf n (by omega)]
/-- what one leans on that answers the one told by a -/
def leanA (h : Nat → Nat → Nat) : Nat → Nat → Nat
  | 0, _ => 0
  | _ + 1, 0 => 0
  | f + 1, j + 1 => 2 ^ j ||| leanA h f (h 5 j)
def leanS (h : Nat → Nat → Nat) (i : Nat) : Nat := leanA h 12 (h 5 i)
def rootA (h : Nat → Nat → Nat) : Nat → Nat → Nat
  | 0, i => i
  | f + 1, i => match h 5 i with
    | 0 => i
    | j + 1 => rootA h f j
def rootS (h : Nat → Nat → Nat) (i : Nat) : Nat := rootA h 12 i
theorem leanA_0 (h : Nat → Nat → Nat) (f : Nat) : leanA h f 0 = 0 := by cases f <;> rfl
section HE
variable {kinds whos toWhoms topics weights answered : Nat → Int32} {n : Nat} {h : Nat → Nat → Nat}
theorem HW.an (hW : HW n h) {j : Nat} (hj : j < n) : h 5 j ≤ j := (hW.2 j hj).2.2.2.2.2.2.2
theorem leanA_lt (hW : HW n h) : ∀ f a, a ≤ n → leanA h f a < 2 ^ a := by
  intro f
  induction f with
  | zero => intro a _; exact Nat.two_pow_pos a
  | succ f ih =>
    intro a ha
    cases a with
    | zero => simp [leanA]
    | succ j =>
      have h1 := hW.an (show j < n by omega)
      have h2 := ih (h 5 j) (by omega)
      show 2 ^ j ||| leanA h f (h 5 j) < 2 ^ (j + 1)
      exact or_lt (pw_lt (by omega)) (Nat.lt_of_lt_of_le h2 (Nat.pow_le_pow_right (by decide) (by omega)))
theorem leanS_lt (hW : HW n h) {i : Nat} (hi : i < n) : leanS h i < 4096 := by
  have h1 := hW.an hi
  have h0 := hW.1
  exact Nat.lt_of_lt_of_le (leanA_lt hW 12 (h 5 i) (by omega)) (Nat.pow_le_pow_right (n := 2) (by decide) (show h 5 i ≤ 12 by omega))
theorem leanA_tb (hW : HW n h) : ∀ f i, i < n → i ≤ f → rootA h f i ≤ i ∧ (leanA h (f + 1) (i + 1)).testBit (rootA h f i) = true ∧ (∀ e, e < rootA h f i → (leanA h (f + 1) (i + 1)).testBit e = false) ∧ h 5 (rootA h f i) = 0 := by
  intro f
  induction f with
  | zero =>
    intro i hi hf
    have : i = 0 := by omega
    subst this
    have h1 := hW.an hi
    have h5 : h 5 0 = 0 := by omega
    refine ⟨Nat.le_refl _, ?_, fun e he => absurd he (Nat.not_lt_zero e), h5⟩
    show (2 ^ 0 ||| leanA h 0 (h 5 0)).testBit 0 = true
    rw [h5]; simp [leanA]
  | succ f ih =>
    intro i hi hf
    have h1 := hW.an hi
    show rootA h (f + 1) i ≤ i ∧ (2 ^ i ||| leanA h (f + 1) (h 5 i)).testBit (rootA h (f + 1) i) = true ∧ (∀ e, e < rootA h (f + 1) i → (2 ^ i ||| leanA h (f + 1) (h 5 i)).testBit e = false) ∧ h 5 (rootA h (f + 1) i) = 0
    cases h5 : h 5 i with
    | zero =>
      have hr : rootA h (f + 1) i = i := by simp [rootA, h5]
      rw [hr, leanA_0, Nat.or_zero]
      refine ⟨Nat.le_refl _, by rw [Nat.testBit_two_pow]; simp, fun e he => ?_, h5⟩
      rw [Nat.testBit_two_pow]; simp; omega
    | succ j =>
      have hr : rootA h (f + 1) i = rootA h f j := by simp [rootA, h5]
      obtain ⟨a, b, c, d⟩ := ih j (by omega) (by omega)
      rw [hr]
      refine ⟨by omega, by rw [Nat.testBit_or, b]; simp, fun e he => ?_, d⟩
      rw [Nat.testBit_or, c e he, Nat.testBit_two_pow]; simp; omega
theorem root_lt (hW : HW n h) {i : Nat} (hi : i < n) : rootS h i ≤ i := (leanA_tb hW 12 i hi (by have := hW.1; omega)).1
theorem root_0 (hW : HW n h) {i : Nat} (hi : i < n) : h 5 (rootS h i) = 0 := (leanA_tb hW 12 i hi (by have := hW.1; omega)).2.2.2
theorem root_nth (hW : HW n h) {i : Nat} (hi : i < n) (h5 : h 5 i ≠ 0) : leanS h i ≠ 0 ∧ 0 < pc (leanS h i) ∧ nth (leanS h i) 0 = rootS h i := by
  have h1 := hW.an hi
  have h0 := hW.1
  obtain ⟨j, hj⟩ : ∃ j, h 5 i = j + 1 := ⟨h 5 i - 1, by omega⟩
  obtain ⟨a, b, c, d⟩ := leanA_tb hW 11 j (by omega) (by omega)
  have hr : rootS h i = rootA h 11 j := by unfold rootS; simp [rootA, hj]
  have hl : leanS h i = leanA h 12 (j + 1) := by unfold leanS; rw [hj]
  have hc0 : cn (rootA h 11 j) (fun e => (leanA h 12 (j + 1)).testBit e) = 0 := cn_zero c
  rw [hr, hl]
  refine ⟨fun hz => ?_, cn_pos (e := rootA h 11 j) (by omega) b, nth_is (by omega) b hc0⟩
  rw [hz] at b
  simp at b
theorem e_leanedOn (hR : HR kinds whos toWhoms topics weights answered n h) (hW : HW n h) {i : Nat} (hi : i < n) (post : Int32 → Prop) : wp_X1_leanedOn answered (nI n) (nI i) post = post (nI (leanS h i)) := by
  have hn := hW.1
  have key : ∀ f a acc st, a ≤ f → st + f ≤ 12 → a ≤ n → (∃ z, wl_X1_leanedOn_12 answered (nI n) post z (nI acc) (ansI a) (nI st)) = post (nI (acc ||| leanA h f a)) := by
    intro f
    induction f with
    | zero =>
      intro a acc st ha hs han
      have : a = 0 := by omega
      subst this
      refine lp_en (σ := Int32 × Int32 × Int32) (fun K x => wb_X1_leanedOn_12 answered (nI n) post (fun u v w => K (u, v, w)) x.1 x.2.1 x.2.2) (fun z x => wl_X1_leanedOn_12 answered (nI n) post z x.1 x.2.1 x.2.2) (fun _ => rfl) (fun _ _ => rfl) (x := (nI acc, ansI 0, nI st)) (fun K => ?_)
      show wb_X1_leanedOn_12 answered (nI n) post (fun u v w => K (u, v, w)) (nI acc) (ansI 0) (nI st) = _
      simp (disch := omega) only [wb_X1_leanedOn_12, z_12, q_le, e_hasAns]
      by_cases c : 12 ≤ st <;> simp [leanA, c]
    | succ f ih =>
      intro a acc st ha hs han
      cases a with
      | zero =>
        refine lp_en (σ := Int32 × Int32 × Int32) (fun K x => wb_X1_leanedOn_12 answered (nI n) post (fun u v w => K (u, v, w)) x.1 x.2.1 x.2.2) (fun z x => wl_X1_leanedOn_12 answered (nI n) post z x.1 x.2.1 x.2.2) (fun _ => rfl) (fun _ _ => rfl) (x := (nI acc, ansI 0, nI st)) (fun K => ?_)
        show wb_X1_leanedOn_12 answered (nI n) post (fun u v w => K (u, v, w)) (nI acc) (ansI 0) (nI st) = _
        simp (disch := omega) only [wb_X1_leanedOn_12, z_12, q_le, e_hasAns]
        by_cases c : 12 ≤ st <;> simp [leanA, c]
      | succ j =>
        have h1 := hW.an (show j < n by omega)
        obtain ⟨r0, r1, r2, r3, r4, r5⟩ := hR j (by omega)
        rw [show leanA h (f + 1) (j + 1) = 2 ^ j ||| leanA h f (h 5 j) from rfl, ← Nat.or_assoc, ← ih (h 5 j) (acc ||| 2 ^ j) (st + 1) (by omega) (by omega) (by omega)]
        refine lp_st (σ := Int32 × Int32 × Int32) (fun K x => wb_X1_leanedOn_12 answered (nI n) post (fun u v w => K (u, v, w)) x.1 x.2.1 x.2.2) (fun z x => wl_X1_leanedOn_12 answered (nI n) post z x.1 x.2.1 x.2.2) (fun _ => rfl) (fun _ _ => rfl) (x := (nI acc, ansI (j + 1), nI st)) (y := (nI (acc ||| 2 ^ j), ansI (h 5 j), nI (st + 1))) (fun K => ?_)
        show wb_X1_leanedOn_12 answered (nI n) post (fun u v w => K (u, v, w)) (nI acc) (nI j) (nI st) = K (nI (acc ||| 2 ^ j), ansI (h 5 j), nI (st + 1))
        have c1 : ¬ 12 ≤ st := by omega
        have c2 : j < n := by omega
        simp (disch := omega) only [wb_X1_leanedOn_12, z_12, q_le, e_hasNum, q_if0, e_bit, q_in, q_cl, q_or, r5, nI_1, c1, c2]
        simp
  obtain ⟨r0, r1, r2, r3, r4, r5⟩ := hR i hi
  have h1 := hW.an hi
  simp (disch := omega) only [wp_X1_leanedOn, q_in, q_cl, r5, z_0, key 12]
  simp [leanS]
theorem e_leaningOn (hR : HR kinds whos toWhoms topics weights answered n h) (hW : HW n h) {i : Nat} (hi : i < n) (post : Int32 → Prop) : wp_X1_leaningOn answered (nI n) (nI i) post = post (nI (bm n (fun e => (leanS h e).testBit i))) := by
  have hn := hW.1
  have hz : bm (i + 1) (fun e => (leanS h e).testBit i) = 0 := bm_zero fun e he => by
    have h1 := hW.an (show e < n by omega)
    exact lt_tb (leanA_lt hW 12 (h 5 e) (by omega)) (by omega)
  have hl := lpG (σ := Int32 × Int32) (fun K x => wb_X1_leaningOn_6 answered (nI n) (nI i) post (fun u v => K (u, v)) x.1 x.2) (fun z x => wl_X1_leaningOn_6 answered (nI n) (nI i) post z x.1 x.2) (fun _ => rfl) (fun _ _ => rfl) (n - (i + 1)) (fun k => (nI (bm (i + 1 + k) (fun e => (leanS h e).testBit i)), nI (i + 1 + k))) (post (nI (bm n (fun e => (leanS h e).testBit i)))) (fun k K hk => ?_) (fun K => ?_)
  · simp only [Nat.add_zero, hz] at hl
    unfold wp_X1_leaningOn
    rw [nI_1]
    exact hl
  · have hk2 : i + 1 + k < n := by omega
    have hlt : leanS h (i + 1 + k) < 4096 := leanS_lt hW hk2
    have nk : ¬ n ≤ i + 1 + k := by omega
    show wb_X1_leaningOn_6 answered (nI n) (nI i) post (fun u v => K (u, v)) (nI (bm (i + 1 + k) (fun e => (leanS h e).testBit i))) (nI (i + 1 + k)) = K (nI (bm (i + 1 + k + 1) (fun e => (leanS h e).testBit i)), nI (i + 1 + k + 1))
    simp (disch := omega) only [wb_X1_leaningOn_6, q_le, e_leanedOn hR hW, e_has, q_if0, e_bit, q_or, nI_1, nk]
    cases c : (leanS h (i + 1 + k)).testBit i <;> simp [bm, c]
  · have hk2 : i + 1 + (n - (i + 1)) = n := by omega
    show wb_X1_leaningOn_6 answered (nI n) (nI i) post (fun u v => K (u, v)) (nI (bm (i + 1 + (n - (i + 1))) (fun e => (leanS h e).testBit i))) (nI (i + 1 + (n - (i + 1)))) = _
    rw [hk2]
    simp (disch := omega) only [wb_X1_leaningOn_6, q_le]
    simp
theorem e_beginningOf (hR : HR kinds whos toWhoms topics weights answered n h) (hW : HW n h) {i : Nat} (hi : i < n) (post : Int32 → Prop) : wp_X1_beginningOf answered (nI n) (nI i) post = post (nI (rootS h i)) := by
  have hn := hW.1
  have hlt : leanS h i < 4096 := leanS_lt hW hi
  by_cases h5 : h 5 i = 0
  · have hl : leanS h i = 0 := by unfold leanS; rw [h5]; exact leanA_0 h 12
    have hr : rootS h i = i := by unfold rootS; simp [rootA, h5]
    simp (disch := omega) only [wp_X1_beginningOf, e_leanedOn hR hW, hl, hr]
    simp [show nI 0 = 0 from rfl]
  · obtain ⟨a, b, c⟩ := root_nth hW hi h5
    simp (disch := omega) only [wp_X1_beginningOf, e_leanedOn hR hW, z_0, q_eq, a, e_numberAt, c]
    simp
theorem e_isBeginning (hR : HR kinds whos toWhoms topics weights answered n h) (hW : HW n h) {i : Nat} (hi : i < n) (post : Int32 → Prop) : wp_X1_isBeginning answered (nI n) (nI i) post = post (if h 5 i = 0 then 1 else 0) := by
  have hn := hW.1
  have h1 := hW.an hi
  obtain ⟨r0, r1, r2, r3, r4, r5⟩ := hR i hi
  simp (disch := omega) only [wp_X1_isBeginning, q_in, q_cl, r5, e_hasAns]
  by_cases c : h 5 i = 0 <;> simp [c]
theorem e_beginningsOfSaid (hR : HR kinds whos toWhoms topics weights answered n h) (hW : HW n h) {s : Nat} (hs : s < 4096) (post : Int32 → Prop) : wp_X1_beginningsOfSaid answered (nI n) (nI s) post = post (nI (orM n (fun e => s.testBit e) (fun e => 2 ^ rootS h e))) := by
  have hn := hW.1
  refine lpG (σ := Int32 × Int32) (fun K x => wb_X1_beginningsOfSaid_4 answered (nI n) (nI s) post (fun u v => K (u, v)) x.1 x.2) (fun z x => wl_X1_beginningsOfSaid_4 answered (nI n) (nI s) post z x.1 x.2) (fun _ => rfl) (fun _ _ => rfl) n (fun k => (nI (orM k (fun e => s.testBit e) (fun e => 2 ^ rootS h e)), nI k)) _ (fun k K hk => ?_) (fun K => ?_)
  · have nk : ¬ n ≤ k := by omega
    have hr := root_lt hW hk
    show wb_X1_beginningsOfSaid_4 answered (nI n) (nI s) post (fun u v => K (u, v)) (nI (orM k (fun e => s.testBit e) (fun e => 2 ^ rootS h e))) (nI k) = K (nI (orM (k + 1) (fun e => s.testBit e) (fun e => 2 ^ rootS h e)), nI (k + 1))
    simp (disch := omega) only [wb_X1_beginningsOfSaid_4, q_le, e_isSaid, q_if0, e_beginningOf hR hW, e_bit, q_or, nI_1, nk]
    cases c : s.testBit k <;> simp [orM, c]
  · show wb_X1_beginningsOfSaid_4 answered (nI n) (nI s) post (fun u v => K (u, v)) _ (nI n) = _
    simp (disch := omega) only [wb_X1_beginningsOfSaid_4, q_le]
    simp
theorem e_alikeInBundle (hR : HR kinds whos toWhoms topics weights answered n h) (hW : HW n h) {i : Nat} (hi : i < n) (post : Int32 → Prop) : wp_X1_alikeInBundle topics answered (nI n) (nI i) post = post (nI (cn n (fun e => rootS h e == rootS h i && h 3 e == h 3 i))) := by
  have hn := hW.1
  have hri := root_lt hW hi
  have hbi := hW.2 i hi
  obtain ⟨q0, q1, q2, q3, q4, q5⟩ := hR i hi
  unfold wp_X1_alikeInBundle
  rw [e_beginningOf hR hW hi]
  refine lpG (σ := Int32 × Int32 × Int32) (fun K x => wb_X1_alikeInBundle_11 topics answered (nI n) (nI i) post (fun u v w => K (u, v, w)) x.1 x.2.1 x.2.2) (fun z x => wl_X1_alikeInBundle_11 topics answered (nI n) (nI i) post z x.1 x.2.1 x.2.2) (fun _ => rfl) (fun _ _ => rfl) n (fun k => (nI (rootS h i), nI (cn k (fun e => rootS h e == rootS h i && h 3 e == h 3 i)), nI k)) _ (fun k K hk => ?_) (fun K => ?_)
  · have nk : ¬ n ≤ k := by omega
    have hr := root_lt hW hk
    have hb := hW.2 k hk
    obtain ⟨r0, r1, r2, r3, r4, r5⟩ := hR k hk
    show wb_X1_alikeInBundle_11 topics answered (nI n) (nI i) post (fun u v w => K (u, v, w)) (nI (rootS h i)) (nI (cn k (fun e => rootS h e == rootS h i && h 3 e == h 3 i))) (nI k) = K (nI (rootS h i), nI (cn (k + 1) (fun e => rootS h e == rootS h i && h 3 e == h 3 i)), nI (k + 1))
    simp (disch := omega) only [wb_X1_alikeInBundle_11, q_le, e_beginningOf hR hW, q_eq, q_in, q_cl, r3, q3, nI_1, nk]
    by_cases c1 : rootS h k = rootS h i <;> by_cases c2 : h 3 k = h 3 i <;> simp [cn, c1, c2]
  · show wb_X1_alikeInBundle_11 topics answered (nI n) (nI i) post (fun u v w => K (u, v, w)) _ _ (nI n) = _
    simp (disch := omega) only [wb_X1_alikeInBundle_11, q_le]
    simp
/-- how long the longest is, and 0 or its end and 1 -/
def dM (h : Nat → Nat → Nat) : Nat → Nat
  | 0 => 0
  | k + 1 => if pc (leanS h k) + 1 ≤ dM h k then dM h k else pc (leanS h k) + 1
def dF (h : Nat → Nat → Nat) : Nat → Nat
  | 0 => 0
  | k + 1 => if pc (leanS h k) + 1 ≤ dM h k then dF h k else k + 1
theorem dM_le (h : Nat → Nat → Nat) (k : Nat) : dM h k ≤ 13 := by
  induction k with
  | zero => simp [dM]
  | succ k ih => have := pc_le (leanS h k)
                 simp only [dM]; split <;> omega
theorem q_pm {d M : Nat} (hd : d ≤ 100) (hM : M ≤ 100) : (nI d ≤ nI M - 1) = (d + 1 ≤ M) := by
  cases M with
  | zero =>
    apply propext
    constructor
    · intro hh
      have h1 : nI d ≤ -1 := hh
      have h2 := nI_pos (n := d) (by omega)
      exact absurd (Int32.lt_of_le_of_lt h1 (by decide)) h2
    · intro hh; omega
  | succ M => rw [nI_pred, q_le (by omega) (by omega)]; apply propext; omega
theorem e_deepest (hR : HR kinds whos toWhoms topics weights answered n h) (hW : HW n h) (post : Int32 → Prop) : wp_X1_deepest answered (nI n) post = post (ansI (dF h n)) := by
  have hn := hW.1
  refine lpG (σ := Int32 × Int32 × Int32) (fun K x => wb_X1_deepest_7 answered (nI n) post (fun u v w => K (u, v, w)) x.1 x.2.1 x.2.2) (fun z x => wl_X1_deepest_7 answered (nI n) post z x.1 x.2.1 x.2.2) (fun _ => rfl) (fun _ _ => rfl) n (fun k => (ansI (dF h k), nI (dM h k) - 1, nI k)) _ (fun k K hk => ?_) (fun K => ?_)
  · have nk : ¬ n ≤ k := by omega
    have hl := leanS_lt hW hk
    have h1 := dM_le h k
    have h2 := pc_le (leanS h k)
    show wb_X1_deepest_7 answered (nI n) post (fun u v w => K (u, v, w)) (ansI (dF h k)) (nI (dM h k) - 1) (nI k) = K (ansI (dF h (k + 1)), nI (dM h (k + 1)) - 1, nI (k + 1))
    simp (disch := omega) only [wb_X1_deepest_7, q_le, e_leanedOn hR hW, e_bc, q_pm, nI_1, nk]
    by_cases c : pc (leanS h k) + 1 ≤ dM h k
    · simp [dF, dM, c]
    · simp [dF, dM, c, nI_pred, ansI]
  · show wb_X1_deepest_7 answered (nI n) post (fun u v w => K (u, v, w)) _ _ (nI n) = _
    simp (disch := omega) only [wb_X1_deepest_7, q_le]
    simp
/-- whether one holds back another that is in s -/
def aheadB (h : Nat → Nat → Nat) (s i : Nat) : Bool := match h 5 i with
  | 0 => false
  | j + 1 => s.testBit j && h 0 j != 4
theorem e_hasToGoAhead (hR : HR kinds whos toWhoms topics weights answered n h) (hW : HW n h) {i s : Nat} (hi : i < n) (hs : s < 4096) (post : Int32 → Prop) : wp_X1_hasToGoAhead kinds answered (nI n) (nI s) (nI i) post = post (if aheadB h s i = true then 1 else 0) := by
  have hn := hW.1
  have h1 := hW.an hi
  obtain ⟨r0, r1, r2, r3, r4, r5⟩ := hR i hi
  simp (disch := omega) only [wp_X1_hasToGoAhead, q_in, q_cl, r5, e_hasAns]
  cases h5 : h 5 i with
  | zero => simp [aheadB, h5]
  | succ j =>
    have hj : j < n := by omega
    have hb := hW.2 j hj
    obtain ⟨t0, t1, t2, t3, t4, t5⟩ := hR j hj
    simp (disch := omega) only [show ansI (j + 1) = nI j from rfl, q_if0, e_isSaid, q_in, q_cl, t0, z_4, q_eq]
    cases c1 : s.testBit j <;> by_cases c2 : h 0 j = 4 <;> simp [aheadB, h5, c1, c2]
def withF (h : Nat → Nat → Nat) (s : Nat) : Nat → Nat → Nat
  | 0, b => b
  | k + 1, b => if s.testBit k && (aheadB h s k && (withF h s k b).testBit (h 5 k - 1)) then withF h s k b ||| 2 ^ k else withF h s k b
theorem withF_lt (h : Nat → Nat → Nat) (s : Nat) {k b : Nat} (hk : k ≤ 12) (hb : b < 4096) : withF h s k b < 4096 := by
  induction k with
  | zero => exact hb
  | succ k ih =>
    have := ih (by omega)
    simp only [withF]
    split
    · exact or_lt (n := 12) this (pw_lt (by omega))
    · exact this
theorem e_hasToGoWith (hR : HR kinds whos toWhoms topics weights answered n h) (hW : HW n h) {s b : Nat} (hs : s < 4096) (hb : b < 4096) (post : Int32 → Prop) : wp_X1_hasToGoWith kinds answered (nI n) (nI s) (nI b) post = post (nI (withF h s n b)) := by
  have hn := hW.1
  refine lpG (σ := Int32 × Int32) (fun K x => wb_X1_hasToGoWith_4 kinds answered (nI n) (nI s) post (fun u v => K (u, v)) x.1 x.2) (fun z x => wl_X1_hasToGoWith_4 kinds answered (nI n) (nI s) post z x.1 x.2) (fun _ => rfl) (fun _ _ => rfl) n (fun k => (nI (withF h s k b), nI k)) _ (fun k K hk => ?_) (fun K => ?_)
  · have nk : ¬ n ≤ k := by omega
    have hl := withF_lt h s (k := k) (by omega) hb
    have h1 := hW.an hk
    obtain ⟨r0, r1, r2, r3, r4, r5⟩ := hR k hk
    show wb_X1_hasToGoWith_4 kinds answered (nI n) (nI s) post (fun u v => K (u, v)) (nI (withF h s k b)) (nI k) = K (nI (withF h s (k + 1) b), nI (k + 1))
    simp (disch := omega) only [wb_X1_hasToGoWith_4, q_le, e_isSaid, q_if0, e_hasToGoAhead hR hW, q_in, q_cl, r5, nI_1, nk]
    cases c1 : s.testBit k with
    | false => simp [withF, c1]
    | true =>
      cases c2 : aheadB h s k with
      | false => simp [withF, c1, c2]
      | true =>
        cases h5 : h 5 k with
        | zero => simp [aheadB, h5] at c2
        | succ j =>
          simp (disch := omega) only [show ansI (j + 1) = nI j from rfl, e_has, q_if0, e_bit, q_or]
          cases c3 : (withF h s k b).testBit j <;> simp [withF, c1, c2, c3, h5]
  · show wb_X1_hasToGoWith_4 kinds answered (nI n) (nI s) post (fun u v => K (u, v)) _ (nI n) = _
    simp (disch := omega) only [wb_X1_hasToGoWith_4, q_le]
    simp
theorem e_personsOfSaid (hR : HR kinds whos toWhoms topics weights answered n h) (hW : HW n h) {s : Nat} (hs : s < 4096) (post : Int32 → Prop) : wp_X1_personsOfSaid whos toWhoms (nI n) (nI s) post = post (nI (orM n (fun e => s.testBit e) (fun e => 2 ^ h 1 e ||| 2 ^ h 2 e))) := by
  have hn := hW.1
  refine lpG (σ := Int32 × Int32) (fun K x => wb_X1_personsOfSaid_4 whos toWhoms (nI n) (nI s) post (fun u v => K (u, v)) x.1 x.2) (fun z x => wl_X1_personsOfSaid_4 whos toWhoms (nI n) (nI s) post z x.1 x.2) (fun _ => rfl) (fun _ _ => rfl) n (fun k => (nI (orM k (fun e => s.testBit e) (fun e => 2 ^ h 1 e ||| 2 ^ h 2 e)), nI k)) _ (fun k K hk => ?_) (fun K => ?_)
  · have nk : ¬ n ≤ k := by omega
    have hb := hW.2 k hk
    obtain ⟨r0, r1, r2, r3, r4, r5⟩ := hR k hk
    show wb_X1_personsOfSaid_4 whos toWhoms (nI n) (nI s) post (fun u v => K (u, v)) (nI (orM k (fun e => s.testBit e) (fun e => 2 ^ h 1 e ||| 2 ^ h 2 e))) (nI k) = K (nI (orM (k + 1) (fun e => s.testBit e) (fun e => 2 ^ h 1 e ||| 2 ^ h 2 e)), nI (k + 1))
    simp (disch := omega) only [wb_X1_personsOfSaid_4, q_le, e_isSaid, q_if0, q_in, q_cl, r1, r2, e_bit, q_or, nI_1, nk]
    cases c : s.testBit k <;> simp [orM, c]
  · show wb_X1_personsOfSaid_4 whos toWhoms (nI n) (nI s) post (fun u v => K (u, v)) _ (nI n) = _
    simp (disch := omega) only [wb_X1_personsOfSaid_4, q_le]
    simp
theorem e_saidBeginnings (hR : HR kinds whos toWhoms topics weights answered n h) (hW : HW n h) {s p q : Nat} (hs : s < 4096) (hp : p < 6) (hq : q < 6) (post : Int32 → Prop) : wp_X1_saidBeginnings whos toWhoms answered (nI n) (nI s) (nI p) (nI q) post = post (nI (cn n (fun e => s.testBit e && (h 5 e == 0 && (h 1 e == p && h 2 e == q))))) := by
  have hn := hW.1
  refine lpG (σ := Int32 × Int32) (fun K x => wb_X1_saidBeginnings_5 whos toWhoms answered (nI n) (nI s) (nI p) (nI q) post (fun u v => K (u, v)) x.1 x.2) (fun z x => wl_X1_saidBeginnings_5 whos toWhoms answered (nI n) (nI s) (nI p) (nI q) post z x.1 x.2) (fun _ => rfl) (fun _ _ => rfl) n (fun k => (nI (cn k (fun e => s.testBit e && (h 5 e == 0 && (h 1 e == p && h 2 e == q)))), nI k)) _ (fun k K hk => ?_) (fun K => ?_)
  · have nk : ¬ n ≤ k := by omega
    have hb := hW.2 k hk
    obtain ⟨r0, r1, r2, r3, r4, r5⟩ := hR k hk
    show wb_X1_saidBeginnings_5 whos toWhoms answered (nI n) (nI s) (nI p) (nI q) post (fun u v => K (u, v)) (nI (cn k (fun e => s.testBit e && (h 5 e == 0 && (h 1 e == p && h 2 e == q))))) (nI k) = K (nI (cn (k + 1) (fun e => s.testBit e && (h 5 e == 0 && (h 1 e == p && h 2 e == q)))), nI (k + 1))
    simp (disch := omega) only [wb_X1_saidBeginnings_5, q_le, e_isSaid, q_if0, e_isBeginning hR hW, q_in, q_cl, r1, r2, q_eq, nI_1, nk]
    cases c : s.testBit k <;> by_cases c1 : h 5 k = 0 <;> by_cases c2 : h 1 k = p <;> by_cases c3 : h 2 k = q <;> simp [cn, c, c1, c2, c3]
  · show wb_X1_saidBeginnings_5 whos toWhoms answered (nI n) (nI s) (nI p) (nI q) post (fun u v => K (u, v)) _ (nI n) = _
    simp (disch := omega) only [wb_X1_saidBeginnings_5, q_le]
    simp
theorem e_begunBy (hR : HR kinds whos toWhoms topics weights answered n h) (hW : HW n h) {p : Nat} (hp : p < 6) (post : Int32 → Prop) : wp_X1_begunBy whos answered (nI n) (nI p) post = post (nI (bm n (fun e => h 1 (rootS h e) == p))) := by
  have hn := hW.1
  refine lpG (σ := Int32 × Int32) (fun K x => wb_X1_begunBy_4 whos answered (nI n) (nI p) post (fun u v => K (u, v)) x.1 x.2) (fun z x => wl_X1_begunBy_4 whos answered (nI n) (nI p) post z x.1 x.2) (fun _ => rfl) (fun _ _ => rfl) n (fun k => (nI (bm k (fun e => h 1 (rootS h e) == p)), nI k)) _ (fun k K hk => ?_) (fun K => ?_)
  · have nk : ¬ n ≤ k := by omega
    have hr := root_lt hW hk
    have hb := hW.2 (rootS h k) (by omega)
    obtain ⟨r0, r1, r2, r3, r4, r5⟩ := hR (rootS h k) (by omega)
    show wb_X1_begunBy_4 whos answered (nI n) (nI p) post (fun u v => K (u, v)) (nI (bm k (fun e => h 1 (rootS h e) == p))) (nI k) = K (nI (bm (k + 1) (fun e => h 1 (rootS h e) == p)), nI (k + 1))
    simp (disch := omega) only [wb_X1_begunBy_4, q_le, e_beginningOf hR hW, q_in, q_cl, r1, q_eq, e_bit, q_or, nI_1, nk]
    by_cases c : h 1 (rootS h k) = p <;> simp [bm, c]
  · show wb_X1_begunBy_4 whos answered (nI n) (nI p) post (fun u v => K (u, v)) _ (nI n) = _
    simp (disch := omega) only [wb_X1_begunBy_4, q_le]
    simp
theorem price_le (hW : HW n h) {s i : Nat} (hi : i < n) : priceS n h s i ≤ 30 := prc_lt hW hi (heat_le s i hW)
theorem e_pricesOf (hR : HR kinds whos toWhoms topics weights answered n h) (hW : HW n h) {s b : Nat} (hb : b < 4096) (post : Int32 → Prop) : wp_X1_pricesOf kinds whos toWhoms topics weights (nI n) (nI s) (nI b) post = post (nI (sumM n (fun e => b.testBit e) (priceS n h s))) := by
  have hn := hW.1
  refine lpG (σ := Int32 × Int32) (fun K x => wb_X1_pricesOf_4 kinds whos toWhoms topics weights (nI n) (nI s) (nI b) post (fun u v => K (u, v)) x.1 x.2) (fun z x => wl_X1_pricesOf_4 kinds whos toWhoms topics weights (nI n) (nI s) (nI b) post z x.1 x.2) (fun _ => rfl) (fun _ _ => rfl) n (fun k => (nI (sumM k (fun e => b.testBit e) (priceS n h s)), nI k)) _ (fun k K hk => ?_) (fun K => ?_)
  · have nk : ¬ n ≤ k := by omega
    show wb_X1_pricesOf_4 kinds whos toWhoms topics weights (nI n) (nI s) (nI b) post (fun u v => K (u, v)) (nI (sumM k (fun e => b.testBit e) (priceS n h s))) (nI k) = K (nI (sumM (k + 1) (fun e => b.testBit e) (priceS n h s)), nI (k + 1))
    simp (disch := omega) only [wb_X1_pricesOf_4, q_le, e_has, q_if0, e_priceAmong hR hW, nI_add, nI_1, nk]
    cases c : b.testBit k <;> simp [sumM, c]
  · show wb_X1_pricesOf_4 kinds whos toWhoms topics weights (nI n) (nI s) (nI b) post (fun u v => K (u, v)) _ (nI n) = _
    simp (disch := omega) only [wb_X1_pricesOf_4, q_le]
    simp
theorem e_beginners (hR : HR kinds whos toWhoms topics weights answered n h) (hW : HW n h) (post : Int32 → Prop) : wp_X1_beginners whos answered (nI n) post = post (nI (orM n (fun e => h 5 e == 0) (fun e => 2 ^ h 1 e))) := by
  have hn := hW.1
  refine lpG (σ := Int32 × Int32) (fun K x => wb_X1_beginners_4 whos answered (nI n) post (fun u v => K (u, v)) x.1 x.2) (fun z x => wl_X1_beginners_4 whos answered (nI n) post z x.1 x.2) (fun _ => rfl) (fun _ _ => rfl) n (fun k => (nI (orM k (fun e => h 5 e == 0) (fun e => 2 ^ h 1 e)), nI k)) _ (fun k K hk => ?_) (fun K => ?_)
  · have nk : ¬ n ≤ k := by omega
    have hb := hW.2 k hk
    obtain ⟨r0, r1, r2, r3, r4, r5⟩ := hR k hk
    show wb_X1_beginners_4 whos answered (nI n) post (fun u v => K (u, v)) (nI (orM k (fun e => h 5 e == 0) (fun e => 2 ^ h 1 e))) (nI k) = K (nI (orM (k + 1) (fun e => h 5 e == 0) (fun e => 2 ^ h 1 e)), nI (k + 1))
    simp (disch := omega) only [wb_X1_beginners_4, q_le, e_isBeginning hR hW, q_if0, q_in, q_cl, r1, e_bit, q_or, nI_1, nk]
    by_cases c : h 5 k = 0 <;> simp [orM, c]
  · show wb_X1_beginners_4 whos answered (nI n) post (fun u v => K (u, v)) _ (nI n) = _
    simp (disch := omega) only [wb_X1_beginners_4, q_le]
    simp
theorem e_howManyOf (hR : HR kinds whos toWhoms topics weights answered n h) (hW : HW n h) {t : Nat} (ht : t < 6) (post : Int32 → Prop) : wp_X1_howManyOf kinds (nI n) (nI t) post = post (nI (cn n (fun e => isOfB (h 0 e) t))) := by
  have hn := hW.1
  refine lpG (σ := Int32 × Int32) (fun K x => wb_X1_howManyOf_4 kinds (nI n) (nI t) post (fun u v => K (u, v)) x.1 x.2) (fun z x => wl_X1_howManyOf_4 kinds (nI n) (nI t) post z x.1 x.2) (fun _ => rfl) (fun _ _ => rfl) n (fun k => (nI (cn k (fun e => isOfB (h 0 e) t)), nI k)) _ (fun k K hk => ?_) (fun K => ?_)
  · have nk : ¬ n ≤ k := by omega
    show wb_X1_howManyOf_4 kinds (nI n) (nI t) post (fun u v => K (u, v)) (nI (cn k (fun e => isOfB (h 0 e) t))) (nI k) = K (nI (cn (k + 1) (fun e => isOfB (h 0 e) t)), nI (k + 1))
    simp (disch := omega) only [wb_X1_howManyOf_4, q_le, e_isOf hR hW, q_if0, nI_1, nk]
    cases c : isOfB (h 0 k) t <;> simp [cn, c]
  · show wb_X1_howManyOf_4 kinds (nI n) (nI t) post (fun u v => K (u, v)) _ (nI n) = _
    simp (disch := omega) only [wb_X1_howManyOf_4, q_le]
    simp
theorem e_toldAhead (hR : HR kinds whos toWhoms topics weights answered n h) (hW : HW n h) {i : Nat} (hi : i < n) (post : Int32 → Prop) : wp_X1_toldAhead toWhoms (nI i) post = post (nI (orM i (fun _ => true) (fun e => 2 ^ h 2 e))) := by
  have hn := hW.1
  refine lpG (σ := Int32 × Int32) (fun K x => wb_X1_toldAhead_4 toWhoms (nI i) post (fun u v => K (u, v)) x.1 x.2) (fun z x => wl_X1_toldAhead_4 toWhoms (nI i) post z x.1 x.2) (fun _ => rfl) (fun _ _ => rfl) i (fun k => (nI (orM k (fun _ => true) (fun e => 2 ^ h 2 e)), nI k)) _ (fun k K hk => ?_) (fun K => ?_)
  · have nk : ¬ i ≤ k := by omega
    have hb := hW.2 k (by omega)
    obtain ⟨r0, r1, r2, r3, r4, r5⟩ := hR k (by omega)
    show wb_X1_toldAhead_4 toWhoms (nI i) post (fun u v => K (u, v)) (nI (orM k (fun _ => true) (fun e => 2 ^ h 2 e))) (nI k) = K (nI (orM (k + 1) (fun _ => true) (fun e => 2 ^ h 2 e)), nI (k + 1))
    simp (disch := omega) only [wb_X1_toldAhead_4, q_le, q_in, q_cl, r2, e_bit, q_or, nI_1, nk]
    simp [orM]
  · show wb_X1_toldAhead_4 toWhoms (nI i) post (fun u v => K (u, v)) _ (nI i) = _
    simp (disch := omega) only [wb_X1_toldAhead_4, q_le]
    simp
end HE
