/-! reading a TEXT: the class's Reader beside the reference -/
def fig (x : Int32) : Int32 := if x - 48 < 0 then -1 else if 9 < x - 48 then -1 else x - 48
def xC (tw : Nat → Int32) (t q p : Nat) : Int32 := if p < q then tw (80 * t + p) else 1000
def xM (tw : Nat → Int32) (t q p : Nat) : Int32 := if p < q then tw (80 * t + p) else -1000
def kdF (x : Int32) : Nat → Int32
  | 0 => -1
  | j + 1 => if lt6 j = x then nI j else kdF x j
theorem kdF_is (x : Int32) : ∀ j, kdF x j = -1 ∨ ∃ k, k < j ∧ kdF x j = nI k := by
  intro j
  induction j with
  | zero => exact Or.inl rfl
  | succ j ih =>
    by_cases e : lt6 j = x
    · exact Or.inr ⟨j, by omega, if_pos e⟩
    · rw [show kdF x (j + 1) = kdF x j from if_neg e]
      rcases ih with h | ⟨k, a, b⟩
      · exact Or.inl h
      · exact Or.inr ⟨k, by omega, b⟩
theorem e_kindOf (x : Int32) (post : Int32 → Prop) : wp_X8_kindOf x post = post (kdF x 6) := by
  unfold wp_X8_kindOf
  have e : kdF x 6 = if (99 : Int32) = x then 5 else if (121 : Int32) = x then 4 else if (112 : Int32) = x then 3 else if (116 : Int32) = x then 2 else if (111 : Int32) = x then 1 else if (115 : Int32) = x then 0 else -1 := rfl
  rw [e]
  by_cases h0 : x = 115
  · subst h0; simp
  by_cases h1 : x = 111
  · subst h1; simp
  by_cases h2 : x = 116
  · subst h2; simp
  by_cases h3 : x = 112
  · subst h3; simp
  by_cases h4 : x = 121
  · subst h4; simp
  by_cases h5 : x = 99
  · subst h5; simp
  rw [if_neg (fun z => h5 z.symm), if_neg (fun z => h4 z.symm), if_neg (fun z => h3 z.symm), if_neg (fun z => h2 z.symm), if_neg (fun z => h1 z.symm), if_neg (fun z => h0 z.symm)]
  simp [h0, h1, h2, h3, h4, h5]
theorem lt6n {a : Nat} (h : a < 2 ^ 31) : (nI a < 6) = (a < 6) := q_ltI h (by decide)
theorem ge6n {a : Nat} (h : a < 2 ^ 31) : ((6 : Int32) ≤ nI a) = (6 ≤ a) := q_le (by decide) h
theorem lt1n {a : Nat} (h : a < 2 ^ 31) : (nI a < 1) = (a < 1) := q_ltI h (by decide)
theorem le9n {a : Nat} (h : a < 2 ^ 31) : (nI a ≤ 9) = (a ≤ 9) := q_le h (by decide)
theorem lt12n {a : Nat} (h : a < 2 ^ 31) : (nI a < 12) = (a < 12) := q_ltI h (by decide)
theorem eq12n {a : Nat} (h : a < 2 ^ 31) : (nI a = 12) = (a = 12) := q_eq h (by decide)
theorem ad2 (p : Nat) : nI p + 2 = nI (p + 2) := nI_add p 2
theorem ad3 (p : Nat) : nI p + 3 = nI (p + 3) := nI_add p 3
theorem ad4 (p : Nat) : nI p + 4 = nI (p + 4) := nI_add p 4
theorem ad5 (p : Nat) : nI p + 5 = nI (p + 5) := nI_add p 5
theorem ad6 (p : Nat) : nI p + 6 = nI (p + 6) := nI_add p 6
theorem pl3 (p : Nat) : (3 : Int32) + nI p = nI (3 + p) := nI_add 3 p
theorem pl15 (p : Nat) : (15 : Int32) + nI p = nI (15 + p) := nI_add 15 p
theorem pl27 (p : Nat) : (27 : Int32) + nI p = nI (27 + p) := nI_add 27 p
theorem pl39 (p : Nat) : (39 : Int32) + nI p = nI (39 + p) := nI_add 39 p
theorem pl51 (p : Nat) : (51 : Int32) + nI p = nI (51 + p) := nI_add 51 p
theorem pl63 (p : Nat) : (63 : Int32) + nI p = nI (63 + p) := nI_add 63 p
theorem nneg0 : ((-1 : Int32) < 0) = True := by decide
theorem nneg1 : ((-1 : Int32) < 1) = True := by decide
theorem big_pos {y : Int32} {b : Nat} (hb : b < 2 ^ 31) (h : nI b ≤ y) : ¬ y < 0 := fun z => nI_pos hb (Int32.lt_of_le_of_lt h z)
theorem sg (tw : Nat → Int32) (t q p : Nat) : (∃ j, j < 10 ∧ fig (xC tw t q p) = nI j ∧ xM tw t q p - 48 = nI j ∧ p < q) ∨ (fig (xC tw t q p) = -1 ∧ (xM tw t q p - 48 < 0 ∨ nI 10 ≤ xM tw t q p - 48)) := by
  by_cases h : p < q
  · have e1 : xC tw t q p = tw (80 * t + p) := if_pos h
    have e2 : xM tw t q p = tw (80 * t + p) := if_pos h
    rw [e1, e2]
    generalize tw (80 * t + p) = v
    unfold fig
    rcases pk_ix (v - 48) (n := 10) (by decide) with c | c | ⟨j, hj, c⟩
    · exact Or.inr ⟨if_pos c, Or.inl c⟩
    · refine Or.inr ⟨?_, Or.inr c⟩
      rw [if_neg (big_pos (by decide) c), if_pos (show (9 : Int32) < v - 48 from q_lt_of_le (n := 9) (by decide) c)]
    · refine Or.inl ⟨j, hj, ?_, c, h⟩
      rw [c, if_neg (nI_pos (by omega)), if_neg (show ¬ (9 : Int32) < nI j from nI_nlt (a := 9) (b := j) (by omega) (by omega))]
  · have e1 : xC tw t q p = 1000 := if_neg h
    have e2 : xM tw t q p = -1000 := if_neg h
    rw [e1, e2]
    exact Or.inr ⟨by decide, Or.inl (by decide)⟩
theorem sgA (tw : Nat → Int32) (t q p : Nat) {n : Nat} (hn : n ≤ 12) : (xC tw t q p = 45 ∧ xM tw t q p = 45 ∧ p < q) ∨ (∃ j, j < n ∧ ¬ xC tw t q p = 45 ∧ ¬ xM tw t q p = 45 ∧ xC tw t q p - 65 = nI j ∧ xM tw t q p - 65 = nI j ∧ p < q) ∨ (¬ xC tw t q p = 45 ∧ ¬ xM tw t q p = 45 ∧ (xC tw t q p - 65 < 0 ∨ nI n ≤ xC tw t q p - 65) ∧ (xM tw t q p - 65 < 0 ∨ nI n ≤ xM tw t q p - 65)) := by
  by_cases h : p < q
  · have e1 : xC tw t q p = tw (80 * t + p) := if_pos h
    have e2 : xM tw t q p = tw (80 * t + p) := if_pos h
    rw [e1, e2]
    generalize tw (80 * t + p) = v
    by_cases c : v = 45
    · exact Or.inl ⟨c, c, h⟩
    · rcases pk_ix (v - 65) (n := n) (by omega) with d | d | ⟨j, hj, d⟩
      · exact Or.inr (Or.inr ⟨c, c, Or.inl d, Or.inl d⟩)
      · exact Or.inr (Or.inr ⟨c, c, Or.inr d, Or.inr d⟩)
      · exact Or.inr (Or.inl ⟨j, hj, c, c, d, d, h⟩)
  · have e1 : xC tw t q p = 1000 := if_neg h
    have e2 : xM tw t q p = -1000 := if_neg h
    rw [e1, e2]
    exact Or.inr (Or.inr ⟨by decide, by decide, Or.inr (nI_le (a := n) (b := 935) (by omega) (by decide)), Or.inl (by decide)⟩)
section RD
variable {m : Nat → Nat} {ts tc tS tw : Nat → Int32} {t q : Nat}
theorem e_sign (hS : SH 4 80 m ts tc tS tw) (ht : t < 4) (hm : m t = q + 1) {p : Nat} (hp : p < 1000) (post : Int32 → Prop) : wp_X3_signAt 4 320 (nI 80) ts tc (nI t) (nI p) post = post (xC tw t q p) := by
  obtain ⟨a, b, c, d⟩ := hS t ht
  rw [hm] at a b d
  by_cases h : p < q
  · have e1 : xC tw t q p = tw (80 * t + p) := if_pos h
    rw [e1, ← d p (by omega)]
    simp (disch := omega) only [wp_X3_signAt, e5_place ht (by decide) (show q < 2 ^ 30 by omega) b h, n_1, e5_cell]
    simp
  · have e1 : xC tw t q p = 1000 := if_neg h
    rw [e1]
    simp only [wp_X3_signAt, e5_placeN ht (by decide) b (Or.inr (nI_le (a := q) (b := p) (by omega) (by omega)))]
    simp
theorem e_byte (hS : SH 4 80 m ts tc tS tw) (ht : t < 4) (hm : m t = q + 1) {p : Nat} (hp : p < 1000) (post : Int32 → Prop) : wp_X8_byteAt tS tw (nI p) (nI t) post = post (xM tw t q p) := by
  obtain ⟨a, b, c, d⟩ := hS t ht
  rw [hm] at a c
  have c' : tS t = nI q := c
  by_cases h : p < q
  · have e1 : xM tw t q p = tw (80 * t + p) := if_pos h
    have nh : ¬ q ≤ p := by omega
    rw [e1]
    simp (disch := omega) only [wp_X8_byteAt, q_in, q_cl, c', q_le, nh, z_80, pk_mul, nI_add]
    simp
  · have e1 : xM tw t q p = -1000 := if_neg h
    have nh : q ≤ p := by omega
    rw [e1]
    simp (disch := omega) only [wp_X8_byteAt, q_in, q_cl, c', q_le, nh]
    simp
theorem e_fig (hS : SH 4 80 m ts tc tS tw) (ht : t < 4) (hm : m t = q + 1) {p : Nat} (hp : p < 1000) (post : Int32 → Prop) : wp_X3_figureAt 4 320 (nI 80) ts tc (nI t) (nI p) post = post (fig (xC tw t q p)) := by
  unfold wp_X3_figureAt
  rw [e_sign hS ht hm hp]
  generalize xC tw t q p = x
  unfold fig
  by_cases h1 : x - 48 < 0
  · simp [h1]
  · by_cases h2 : 9 < x - 48
    · simp [h1, h2]
    · simp [h1, h2]
theorem e_takesY (hS : SH 4 80 m ts tc tS tw) (ht : t < 4) (hm : m t = q + 1) {p : Nat} (hp : p < 1000) {d lo hi pl : Nat} (hx : xM tw t q p - 48 = nI d) (h1 : lo ≤ d) (h2 : d ≤ hi) (hh : hi < 100) (hpl : pl < 115) (rd : Nat → Int32) (post : Int32 → (Nat → Int32) → Int32 → Prop) : wp_X8_takes tS tw rd (nI p) (nI t) (nI pl) (nI lo) (nI hi) post = post 1 (upd rd pl (nI d)) (nI (p + 1)) := by
  unfold wp_X8_takes
  rw [e_byte hS ht hm hp, hx, e_in]
  have c : ¬ (nI d < nI lo ∨ nI hi < nI d) := by
    rintro (z | z)
    · exact nI_nlt h1 (by omega) z
    · exact nI_nlt h2 (by omega) z
  rw [if_neg c]
  simp (disch := omega) only [n_1, q_in, q_cl, nI_1]
  simp
theorem e_takesN (hS : SH 4 80 m ts tc tS tw) (ht : t < 4) (hm : m t = q + 1) {p : Nat} (hp : p < 1000) {lo hi : Nat} (hx : ∀ d, lo ≤ d → d ≤ hi → ¬ xM tw t q p - 48 = nI d) (hl : lo ≤ hi) (hh : hi < 100) (rd : Nat → Int32) (pl : Int32) (post : Int32 → (Nat → Int32) → Int32 → Prop) : wp_X8_takes tS tw rd (nI p) (nI t) pl (nI lo) (nI hi) post = post 0 rd (nI p) := by
  unfold wp_X8_takes
  rw [e_byte hS ht hm hp, e_in]
  have c : xM tw t q p - 48 < nI lo ∨ nI hi < xM tw t q p - 48 := by
    rcases pk_ix (xM tw t q p - 48) (n := hi + 1) (by omega) with z | z | ⟨j, hj, z⟩
    · exact Or.inl (Int32.lt_of_lt_of_le z (nI_pos' (by omega)))
    · exact Or.inr (q_lt_of_le (by omega) z)
    · left
      rw [z]
      refine nI_lt ?_ (by omega)
      rcases Nat.lt_or_ge j lo with k | k
      · exact k
      · exact absurd z (hx j k (by omega))
  rw [if_pos c]
  simp
end RD
/-- what the class's row and the reference's hold while they read -/
def RdL (kinds whos toWhoms topics weights answered rd : Nat → Int32) (n : Nat) (h : Nat → Nat → Nat) : Prop := HR kinds whos toWhoms topics weights answered n h ∧ MH rd n h ∧ HW n h ∧ rd 1 = 0
def rdN (rd : Nat → Int32) (n : Nat) (v : Nat → Nat) : Nat → Int32 := upd (upd (upd (upd (upd (upd (upd rd (3 + n) (nI (v 0))) (15 + n) (nI (v 1))) (27 + n) (nI (v 2))) (39 + n) (nI (v 3))) (51 + n) (nI (v 4))) (63 + n) (ansI (v 5))) 0 (nI (n + 1))
theorem RdL.add {kinds whos toWhoms topics weights answered rd : Nat → Int32} {n : Nat} {h : Nat → Nat → Nat} (hL : RdL kinds whos toWhoms topics weights answered rd n h) (hn : n < 12) {v : Nat → Nat} (hv : v 0 < 6 ∧ v 1 < 6 ∧ v 2 < 6 ∧ v 1 ≠ v 2 ∧ v 3 < 6 ∧ 1 ≤ v 4 ∧ v 4 ≤ 9 ∧ v 5 ≤ n) : RdL (upd kinds n (nI (v 0))) (upd whos n (nI (v 1))) (upd toWhoms n (nI (v 2))) (upd topics n (nI (v 3))) (upd weights n (nI (v 4))) (upd answered n (ansI (v 5))) (rdN rd n v) (n + 1) (hN h n v) := by
  obtain ⟨hR, hM, hW, h1⟩ := hL
  refine ⟨fun j hj => ?_, ⟨q_us, fun j hj => ?_⟩, ⟨by omega, fun j hj => ?_⟩, ?_⟩
  · by_cases e : j = n
    · subst e
      simp only [hN_n, q_us]
      exact ⟨trivial, trivial, trivial, trivial, trivial, trivial⟩
    · have := hR j (by omega)
      simp (disch := omega) only [hN_o, q_up]
      exact this
  · by_cases e : j = n
    · subst e
      unfold rdN
      simp (disch := omega) only [hN_n, q_us, q_up]
      exact ⟨trivial, trivial, trivial, trivial, trivial, trivial⟩
    · have := hM.2 j (by omega)
      unfold rdN
      simp (disch := omega) only [hN_o, q_up]
      exact this
  · by_cases e : j = n
    · subst e
      simp only [hN_n]
      exact hv
    · have := hW.2 j (by omega)
      simp (disch := omega) only [hN_o]
      exact this
  · unfold rdN
    simp (disch := omega) only [q_up]
    exact h1
