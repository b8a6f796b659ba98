/-! more of loops, sets, numbers -/
theorem ic1 (c A : Prop) : ((¬ c → A) ∧ (c → A)) = A := propext ⟨fun h => (Classical.em c).elim h.2 h.1, fun h => ⟨fun _ => h, fun _ => h⟩⟩
theorem ic2 (c A : Prop) : ((c → A) ∧ (¬ c → A)) = A := propext ⟨fun h => (Classical.em c).elim h.1 h.2, fun h => ⟨fun _ => h, fun _ => h⟩⟩
theorem lp_st {σ : Type} (wb : (σ → Prop) → σ → Prop) (wl : Nat → σ → Prop) (h0 : ∀ x, wl 0 x = False) (h1 : ∀ z x, wl (z + 1) x = wb (wl z) x) {x y : σ} (hs : ∀ K, wb K x = K y) : (∃ z, wl z x) = (∃ z, wl z y) := by
  apply propext
  constructor
  · rintro ⟨z, hz⟩
    cases z with
    | zero => rw [h0] at hz; exact hz.elim
    | succ z => rw [h1, hs] at hz; exact ⟨z, hz⟩
  · rintro ⟨z, hz⟩
    exact ⟨z + 1, by rw [h1, hs]; exact hz⟩
theorem lp_en {σ : Type} (wb : (σ → Prop) → σ → Prop) (wl : Nat → σ → Prop) (h0 : ∀ x, wl 0 x = False) (h1 : ∀ z x, wl (z + 1) x = wb (wl z) x) {x : σ} {out : Prop} (he : ∀ K, wb K x = out) : (∃ z, wl z x) = out := by
  apply propext
  constructor
  · rintro ⟨z, hz⟩
    cases z with
    | zero => rw [h0] at hz; exact hz.elim
    | succ z => rw [h1, he] at hz; exact hz
  · intro h
    exact ⟨1, by rw [h1, he]; exact h⟩
theorem bm_zero {n : Nat} {P : Nat → Bool} (h : ∀ e, e < n → P e = false) : bm n P = 0 := by
  induction n with
  | zero => rfl
  | succ n ih => rw [bm_s0 (h n (by omega)), ih (fun e he => h e (by omega))]
theorem cn_zero {n : Nat} {P : Nat → Bool} (h : ∀ e, e < n → P e = false) : cn n P = 0 := by
  induction n with
  | zero => rfl
  | succ n ih => rw [cn_s0 (h n (by omega)), ih (fun e he => h e (by omega))]
theorem cn_pos {n : Nat} {P : Nat → Bool} {e : Nat} (he : e < n) (h : P e = true) : 0 < cn n P := by
  induction n with
  | zero => omega
  | succ n ih =>
    by_cases hn : e = n
    · subst hn; rw [cn_s1 h]; omega
    · have := ih (by omega)
      simp only [cn]; omega
theorem cn_eq0 {n : Nat} {P : Nat → Bool} : cn n P = 0 ↔ ∀ e, e < n → P e = false := by
  constructor
  · intro h e he
    cases hp : P e with
    | false => rfl
    | true => have := cn_pos he hp; omega
  · exact cn_zero
theorem bm_eq0 {n : Nat} {P : Nat → Bool} : bm n P = 0 ↔ ∀ e, e < n → P e = false := by
  constructor
  · intro h e he
    have := tb_bm n P e
    rw [h] at this
    simpa [he] using this.symm
  · exact bm_zero
theorem nd_bm {n : Nat} (hn : n ≤ 12) (P : Nat → Bool) (i : Nat) : nd (bm n P) (2 ^ i) = bm n (fun e => e != i && P e) := by
  refine set_ext (n := 12) (nd_lt (bm_le n P hn)) (bm_le n _ hn) fun e he => ?_
  rw [tb_nd (by omega), tb_bm, tb_bm, Nat.testBit_two_pow]
  by_cases h : i = e
  · subst h; simp
  · have : (e != i) = true := by simpa using fun z => h z.symm
    simp [h, this]
theorem and_bm {n : Nat} (hn : n ≤ 12) (P : Nat → Bool) (s : Nat) : bm n P &&& s = bm n (fun e => P e && s.testBit e) := by
  refine set_ext (n := 12) (Nat.lt_of_le_of_lt Nat.and_le_left (bm_le n P hn)) (bm_le n _ hn) fun e he => ?_
  rw [Nat.testBit_and, tb_bm, tb_bm, Bool.and_assoc]
theorem and_lt {a b n : Nat} (h : a < 2 ^ n) : a &&& b < 2 ^ n := Nat.lt_of_le_of_lt Nat.and_le_left h
theorem or_lt {a b n : Nat} (h : a < 2 ^ n) (h2 : b < 2 ^ n) : a ||| b < 2 ^ n := Nat.or_lt_two_pow h h2
theorem pw_lt {i n : Nat} (h : i < n) : 2 ^ i < 2 ^ n := Nat.pow_lt_pow_right (by decide) h
/-- the first place from k on, of f many, that fulfils P; k + f if there is none -/
def fi : Nat → Nat → (Nat → Bool) → Nat
  | 0, k, _ => k
  | f + 1, k, P => if P k then k else fi f (k + 1) P
theorem fi_le (f k : Nat) (P : Nat → Bool) : k ≤ fi f k P ∧ fi f k P ≤ k + f := by
  induction f generalizing k with
  | zero => simp [fi]
  | succ f ih => simp only [fi]; split
                 · omega
                 · have := ih (k + 1); omega
theorem fi_is {f k e : Nat} {P : Nat → Bool} (h1 : k ≤ e) (h2 : e < k + f) (hp : P e = true) (hl : ∀ j, k ≤ j → j < e → P j = false) : fi f k P = e := by
  induction f generalizing k with
  | zero => omega
  | succ f ih =>
    by_cases hk : k = e
    · subst hk; simp [fi, hp]
    · have : P k = false := hl k (Nat.le_refl k) (by omega)
      simp only [fi, this]
      exact ih (by omega) (by omega) (fun j a b => hl j (by omega) b)
theorem fi_no {f k : Nat} {P : Nat → Bool} (hl : ∀ j, k ≤ j → j < k + f → P j = false) : fi f k P = k + f := by
  induction f generalizing k with
  | zero => rfl
  | succ f ih =>
    have : P k = false := hl k (Nat.le_refl k) (by omega)
    simp only [fi, this]
    rw [if_neg (by simp), ih (fun j a b => hl j (by omega) (by omega))]; omega
theorem fi_s0 {f k : Nat} {P : Nat → Bool} (h : P k = false) : fi (f + 1) k P = fi f (k + 1) P := by simp [fi, h]
theorem fi_tb {f k : Nat} {P : Nat → Bool} (h : fi f k P < k + f) : P (fi f k P) = true := by
  induction f generalizing k with
  | zero => simp [fi] at h
  | succ f ih =>
    by_cases hp : P k = true
    · simp [fi, hp]
    · have hp' : P k = false := by simpa using hp
      rw [fi_s0 hp'] at h ⊢
      exact ih (by omega)
theorem fi_min {f k j : Nat} {P : Nat → Bool} (h1 : k ≤ j) (h2 : j < fi f k P) : P j = false := by
  induction f generalizing k with
  | zero => simp [fi] at h2; omega
  | succ f ih =>
    by_cases hp : P k = true
    · simp [fi, hp] at h2; omega
    · have hp' : P k = false := by simpa using hp
      by_cases hk : k = j
      · subst hk; exact hp'
      · rw [fi_s0 hp'] at h2
        exact ih (k := k + 1) (by omega) h2
/-- the place of a set that has p places of it below -/
def nth (s p : Nat) : Nat := fi 12 0 (fun i => s.testBit i && cn i (fun e => s.testBit e) == p)
theorem cn_pcS {s k : Nat} (hk : k < 12) (h : s.testBit k = true) : cn k (fun e => s.testBit e) < pc s := by
  have : ∀ m, k < m → cn k (fun e => s.testBit e) < cn m (fun e => s.testBit e) := by
    intro m
    induction m with
    | zero => intro h; omega
    | succ m ih =>
      intro hm
      by_cases hkm : k = m
      · subst hkm; rw [cn_s1 (P := fun e => s.testBit e) h]; omega
      · have := ih (by omega)
        simp only [cn]; omega
  exact this 12 hk
theorem nth_ex {s p : Nat} (h : p < pc s) : ∃ i, i < 12 ∧ s.testBit i = true ∧ cn i (fun e => s.testBit e) = p := by
  have : ∀ m, p < cn m (fun e => s.testBit e) → ∃ i, i < m ∧ s.testBit i = true ∧ cn i (fun e => s.testBit e) = p := by
    intro m
    induction m with
    | zero => intro h; simp [cn] at h
    | succ m ih =>
      intro h
      by_cases hm : p < cn m (fun e => s.testBit e)
      · obtain ⟨i, a, b, c⟩ := ih hm
        exact ⟨i, by omega, b, c⟩
      · cases hb : s.testBit m with
        | true => rw [cn_s1 (P := fun e => s.testBit e) hb] at h; exact ⟨m, by omega, hb, by omega⟩
        | false => rw [cn_s0 (P := fun e => s.testBit e) hb] at h; exact absurd h hm
  exact this 12 h
theorem cn_mono {s a b : Nat} (h : a ≤ b) : cn a (fun e => s.testBit e) ≤ cn b (fun e => s.testBit e) := by
  induction b with
  | zero => have : a = 0 := by omega
            subst this; exact Nat.le_refl _
  | succ b ih =>
    by_cases hb : a = b + 1
    · subst hb; exact Nat.le_refl _
    · have := ih (by omega)
      simp only [cn]; omega
theorem cn_strict {s a b : Nat} (h : a < b) (ha : s.testBit a = true) : cn a (fun e => s.testBit e) < cn b (fun e => s.testBit e) := by
  have h1 : cn (a + 1) (fun e => s.testBit e) ≤ cn b (fun e => s.testBit e) := cn_mono h
  rw [cn_s1 (P := fun e => s.testBit e) ha] at h1
  omega
theorem nth_is {s p i : Nat} (hi : i < 12) (hb : s.testBit i = true) (hc : cn i (fun e => s.testBit e) = p) : nth s p = i := by
  refine fi_is (Nat.zero_le i) (by omega) (by simp [hb, hc]) fun j _ hj => ?_
  cases hjb : s.testBit j with
  | false => simp
  | true =>
    have := cn_strict hj hjb
    simp; omega
theorem nth_lt {s p : Nat} (h : p < pc s) : nth s p < 12 ∧ s.testBit (nth s p) = true ∧ cn (nth s p) (fun e => s.testBit e) = p := by
  obtain ⟨i, a, b, c⟩ := nth_ex h
  rw [nth_is a b c]
  exact ⟨a, b, c⟩
theorem z_0 : (0 : Int32) = nI 0 := rfl
theorem z_1 : (1 : Int32) = nI 1 := rfl
theorem z_2 : (2 : Int32) = nI 2 := rfl
theorem z_3 : (3 : Int32) = nI 3 := rfl
theorem z_4 : (4 : Int32) = nI 4 := rfl
theorem z_5 : (5 : Int32) = nI 5 := rfl
theorem z_6 : (6 : Int32) = nI 6 := rfl
theorem z_12 : (12 : Int32) = nI 12 := rfl
theorem z_20 : (20 : Int32) = nI 20 := rfl
theorem z_40 : (40 : Int32) = nI 40 := rfl
theorem e_numberAt {s p : Nat} (hs : s < 4096) (hp : p < pc s) (post : Int32 → Prop) : wp_X7_numberAt (nI s) (nI p) post = post (nI (nth s p)) := by
  obtain ⟨hl, hb, hc⟩ := nth_lt hp
  refine lpG (σ := Int32 × Int32) (fun K x => wb_X7_numberAt_4 (nI s) (nI p) post (fun u v => K (u, v)) x.1 x.2) (fun z x => wl_X7_numberAt_4 (nI s) (nI p) post z x.1 x.2) (fun _ => rfl) (fun _ _ => rfl) (nth s p) (fun k => (nI (cn k (fun e => s.testBit e)), nI k)) _ (fun k K hk => ?_) (fun K => ?_)
  · have hm := cn_le k (fun e => s.testBit e)
    have h12 : ¬ 12 ≤ k := by omega
    show wb_X7_numberAt_4 (nI s) (nI p) post (fun u v => K (u, v)) (nI (cn k (fun e => s.testBit e))) (nI k) = K (nI (cn (k + 1) (fun e => s.testBit e)), nI (k + 1))
    have hpc := pc_le s
    simp (disch := omega) only [wb_X7_numberAt_4, z_12, q_le, h12, e_has, q_if0, nI_1, q_eq]
    cases hbk : s.testBit k with
    | false => simp [cn, hbk]
    | true =>
      have : cn k (fun e => s.testBit e) ≠ p := by
        intro hcp
        have := nth_is (p := p) (by omega) hbk hcp
        omega
      simp [cn, hbk, this]
  · have hpc := pc_le s
    show wb_X7_numberAt_4 (nI s) (nI p) post (fun u v => K (u, v)) (nI (cn (nth s p) (fun e => s.testBit e))) (nI (nth s p)) = _
    have h12 : ¬ 12 ≤ nth s p := by omega
    simp (disch := omega) only [wb_X7_numberAt_4, z_12, q_le, h12, e_has, q_if0, hb, hc]
    simp
