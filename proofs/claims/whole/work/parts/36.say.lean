/-! say -/
theorem i_of {x : Int32} (h : ¬ x < 0) : ∃ k : Nat, k < 2 ^ 31 ∧ x = nI k := by
  rcases pk_ix x (n := 2147483647) (by decide) with h1 | h1 | ⟨k, h1, h2⟩
  · exact absurd h1 h
  · exact ⟨2147483647, by decide, Int32.le_antisymm (by
      rw [Int32.le_iff_toInt_le]
      have := Int32.toInt_lt x
      show x.toInt ≤ 2147483647
      omega) h1⟩
  · exact ⟨k, by omega, h2⟩
/-- one saying more -/
def hN (h : Nat → Nat → Nat) (n : Nat) (v : Nat → Nat) : Nat → Nat → Nat := fun f j => if j = n then v f else h f j
theorem hN_o {h : Nat → Nat → Nat} {n j f : Nat} {v : Nat → Nat} (hj : j < n) : hN h n v f j = h f j := if_neg (by omega)
theorem hN_n {h : Nat → Nat → Nat} {n f : Nat} {v : Nat → Nat} : hN h n v f n = v f := if_pos rfl
section HEA
variable {kinds whos toWhoms topics weights answered deeds now : Nat → Int32} {n s dn : Nat} {h : Nat → Nat → Nat}
/-- the reference with one saying more -/
def sayM (now : Nat → Int32) (n s : Nat) (v : Nat → Nat) : Nat → Int32 := upd (upd (upd (upd (upd (upd (upd (upd now (3 + n) (nI (v 0))) (15 + n) (nI (v 1))) (27 + n) (nI (v 2))) (39 + n) (nI (v 3))) (51 + n) (nI (v 4))) (63 + n) (ansI (v 5))) 2 (nI (s ||| 2 ^ n))) 0 (nI (n + 1))
def sayN (now : Nat → Int32) (n s dn : Nat) (v : Nat → Nat) : Nat → Int32 := upd (upd (sayM now n s v) (75 + dn) (nI (100 + n))) 1 (nI (dn + 1))
theorem HP.say (hP : HP kinds whos toWhoms topics weights answered deeds now n s dn h) (hn : n < 12) (hd : dn < 40) {v : Nat → Nat} (hv : v 0 < 6 ∧ v 1 < 6 ∧ v 2 < 6 ∧ v 1 ≠ v 2 ∧ v 3 < 6 ∧ 1 ≤ v 4 ∧ v 4 ≤ 9 ∧ v 5 ≤ n) : HP (upd kinds n (nI (v 0))) (upd whos n (nI (v 1))) (upd toWhoms n (nI (v 2))) (upd topics n (nI (v 3))) (upd weights n (nI (v 4))) (upd answered n (ansI (v 5))) (upd deeds dn (-1)) (sayN now n s dn v) (n + 1) (s ||| 2 ^ n) (dn + 1) (hN h n v) := by
  obtain ⟨hR, hM, hW, hs, hd40, h1, h2, hD⟩ := hP
  refine ⟨fun j hj => ?_, ⟨?_, fun j hj => ?_⟩, ⟨by omega, fun j hj => ?_⟩, ?_, by omega, ?_, ?_, ?_⟩
  · by_cases hjn : j = n
    · subst hjn
      simp only [hN_n, q_us]
      simp
    · simp only [hN_o (h := h) (v := v) (show j < n by omega), q_up hjn]
      exact hR j (by omega)
  · unfold sayN sayM
    rw [q_up (by omega), q_up (by omega), q_us]
  · have g : ∀ q, q < 75 → 3 ≤ q → sayN now n s dn v q = upd (upd (upd (upd (upd (upd now (3 + n) (nI (v 0))) (15 + n) (nI (v 1))) (27 + n) (nI (v 2))) (39 + n) (nI (v 3))) (51 + n) (nI (v 4))) (63 + n) (ansI (v 5)) q := by
      intro q hq hq3
      unfold sayN sayM
      rw [q_up (by omega), q_up (by omega), q_up (by omega), q_up (by omega)]
    rw [g _ (by omega) (by omega), g _ (by omega) (by omega), g _ (by omega) (by omega), g _ (by omega) (by omega), g _ (by omega) (by omega), g _ (by omega) (by omega)]
    by_cases hjn : j = n
    · subst hjn
      simp only [hN_n]
      simp (disch := omega) only [q_up, q_us, ne_eq]
      simp
    · have m := hM.2 j (by omega)
      simp only [hN_o (h := h) (v := v) (show j < n by omega)]
      have g2 : ∀ q, q ≠ 3 + n → q ≠ 15 + n → q ≠ 27 + n → q ≠ 39 + n → q ≠ 51 + n → q ≠ 63 + n → upd (upd (upd (upd (upd (upd now (3 + n) (nI (v 0))) (15 + n) (nI (v 1))) (27 + n) (nI (v 2))) (39 + n) (nI (v 3))) (51 + n) (nI (v 4))) (63 + n) (ansI (v 5)) q = now q := by
        intro q a b c d e f
        rw [q_up f, q_up e, q_up d, q_up c, q_up b, q_up a]
      rw [g2 _ (by omega) (by omega) (by omega) (by omega) (by omega) (by omega), g2 _ (by omega) (by omega) (by omega) (by omega) (by omega) (by omega), g2 _ (by omega) (by omega) (by omega) (by omega) (by omega) (by omega), g2 _ (by omega) (by omega) (by omega) (by omega) (by omega) (by omega), g2 _ (by omega) (by omega) (by omega) (by omega) (by omega) (by omega), g2 _ (by omega) (by omega) (by omega) (by omega) (by omega) (by omega)]
      exact m
  · by_cases hjn : j = n
    · subst hjn
      simp only [hN_n]
      exact hv
    · simp only [hN_o (h := h) (v := v) (show j < n by omega)]
      exact hW.2 j (by omega)
  · exact or_lt (n := n + 1) (Nat.lt_of_lt_of_le hs (Nat.pow_le_pow_right (by decide) (by omega))) (pw_lt (by omega))
  · exact q_us
  · unfold sayN sayM
    rw [q_up (by omega), q_up (by omega), q_up (by omega), q_us]
  · refine Or.inl ⟨q_us, by omega, ?_, ?_⟩
    · unfold sayN
      rw [q_up (by omega), q_us]
      rfl
    · rw [show n + 1 - 1 = n by omega]
      have d1 := hD.deeds (p := dn) (v := -1) _ _ (Nat.le_refl dn)
      unfold sayN sayM
      exact (((((((((d1.now (p := 3 + n) _ _ (by omega)).now (p := 15 + n) _ _ (by omega)).now (p := 27 + n) _ _ (by omega)).now (p := 39 + n) _ _ (by omega)).now (p := 51 + n) _ _ (by omega)).now (p := 63 + n) _ _ (by omega)).now (p := 2) _ _ (by omega)).now (p := 0) _ _ (by omega)).now (p := 75 + dn) _ _ (by omega)).now (p := 1) _ _ (by omega)
/-- what say answers: the value, and whether one comes -/
theorem e_say (hP : HP kinds whos toWhoms topics weights answered deeds now n s dn h) (kind told weight answers : Int32) : (∃ a, (∀ post, wp_X7_say kinds whos toWhoms topics weights answered deeds (nI n) (nI s) (nI dn) kind told weight answers post = post a kinds whos toWhoms topics weights answered deeds (nI n) (nI s) (nI dn)) ∧ (∀ post, wp_X8_say now kind told weight answers post = post a now)) ∨ (n < 12 ∧ dn < 40 ∧ ∃ v : Nat → Nat, (v 0 < 6 ∧ v 1 < 6 ∧ v 2 < 6 ∧ v 1 ≠ v 2 ∧ v 3 < 6 ∧ 1 ≤ v 4 ∧ v 4 ≤ 9 ∧ v 5 ≤ n) ∧ (∀ post, wp_X7_say kinds whos toWhoms topics weights answered deeds (nI n) (nI s) (nI dn) kind told weight answers post = post (nI n) (upd kinds n (nI (v 0))) (upd whos n (nI (v 1))) (upd toWhoms n (nI (v 2))) (upd topics n (nI (v 3))) (upd weights n (nI (v 4))) (upd answered n (ansI (v 5))) (upd deeds dn (-1)) (nI (n + 1)) (nI (s ||| 2 ^ n)) (nI (dn + 1))) ∧ (∀ post, wp_X8_say now kind told weight answers post = post (nI n) (sayN now n s dn v))) := by
  have hs4 := hP.s4
  obtain ⟨hR, hM, hW, hs, hd40, h1, h2, hD⟩ := hP
  have hn := hW.1
  have y9 : (9 : Int64) = (nI 9).toInt64 := by decide
  have y555 : (555 : Int64) = (nI 555).toInt64 := by decide
  have hN : ∀ post : Int32 → Prop, wp_X1_hasNumber (nI n) answers post = post 0 ∨ wp_X1_hasNumber (nI n) answers post = post 1 := by
    intro post
    rcases pk_ix answers (n := n) (by omega) with ha | ha | ⟨j, hj, rfl⟩
    · exact Or.inl (e_hasNumN hW (Or.inl ha) post)
    · exact Or.inl (e_hasNumN hW (Or.inr ha) post)
    · rw [e_hasNum (by omega) (by omega), if_pos hj]; exact Or.inr rfl
  -- told
  by_cases t0 : told < 0
  · left
    refine ⟨-1, fun post => ?_, fun post => ?_⟩
    · have w : wb_X7_say_46 kind told weight answers post kinds whos toWhoms topics weights answered deeds (nI n) (nI s) (nI dn) = post (-1) kinds whos toWhoms topics weights answered deeds (nI n) (nI s) (nI dn) := by
        simp only [wb_X7_say_46, t0]; simp
      unfold wp_X7_say
      rcases hN _ with e | e <;> rw [e, w] <;> by_cases c1 : kind < 0 <;> by_cases c2 : (6 : Int32) ≤ kind <;> by_cases c3 : weight < 1 <;> by_cases c4 : (9 : Int32) < weight <;> by_cases c5 : answers = -9 <;> simp [c1, c2, c3, c4, c5]
    · unfold wp_X8_say
      rw [y_0, y_5, e_in, y555, e_in]
      have : told < (0 : Int32) ∨ nI 555 < told := Or.inl t0
      rw [if_pos this]
      split <;> simp
  obtain ⟨T, hT, rfl⟩ := i_of t0
  have q10 : nI T / 10 = nI (T / 10) := pk_div (a := T) (d := 10) (by omega) (by decide) (by decide)
  have q100 : nI T / 100 = nI (T / 100) := pk_div (a := T) (d := 100) (by omega) (by decide) (by decide)
  have q1010 : nI (T / 10) / 10 = nI (T / 10 / 10) := pk_div (a := T / 10) (d := 10) (by omega) (by decide) (by decide)
  have m1 : nI (T / 10) - nI (T / 10 / 10) * 10 = nI (T / 10 % 10) := by
    rw [show (10 : Int32) = nI 10 from rfl, pk_mul, pk_sub (by omega)]
    congr 1; omega
  have m2 : nI T - nI (T / 10) * 10 = nI (T % 10) := by
    rw [show (10 : Int32) = nI 10 from rfl, pk_mul, pk_sub (by omega)]
    congr 1; omega
  have hU : T / 100 < 2 ^ 31 := by omega
  have hV : T / 10 % 10 < 10 := by omega
  have hW6 : T % 10 < 10 := by omega
  by_cases ok : T / 100 < 6 ∧ T / 10 % 10 < 6 ∧ T / 100 ≠ T / 10 % 10 ∧ T % 10 < 6
  case neg =>
    left
    refine ⟨-1, fun post => ?_, fun post => ?_⟩
    · have w : wb_X7_say_46 kind (nI T) weight answers post kinds whos toWhoms topics weights answered deeds (nI n) (nI s) (nI dn) = post (-1) kinds whos toWhoms topics weights answered deeds (nI n) (nI s) (nI dn) := by
        simp (disch := omega) only [wb_X7_say_46, q_lt0, q10, q100, q1010, m1, m2, z_6, q_le, q_eq, q_ltI]
        by_cases a1 : 6 ≤ T / 100 <;> by_cases a2 : 6 ≤ T / 10 % 10 <;> by_cases a3 : T / 100 = T / 10 % 10 <;> by_cases a4 : T % 10 < 6 <;> first | (exfalso; apply ok; omega) | (simp only [a1, a2, a3, a4]; simp)
      unfold wp_X7_say
      rcases hN _ with e | e <;> rw [e, w] <;> by_cases c1 : kind < 0 <;> by_cases c2 : (6 : Int32) ≤ kind <;> by_cases c3 : weight < 1 <;> by_cases c4 : (9 : Int32) < weight <;> by_cases c5 : answers = -9 <;> simp [c1, c2, c3, c4, c5]
    · have w : wb_X8_say_54 kind (nI T) weight answers post now = post (-1) now ∨ 555 < T := by
        rcases Nat.lt_or_ge 555 T with hb | hb
        · exact Or.inr hb
        · left
          simp (disch := omega) only [wb_X8_say_54, q10, q100, q1010, m1, m2]
          rcases Nat.lt_or_ge (T / 10 % 10) 6 with a2 | a2
          · have f5 : ((5 : Int32) < nI (T % 10)) = (5 < T % 10) := q_ltI (a := 5) (by decide) (by omega)
            rw [e_isPersonY a2]
            simp (disch := omega) only [n_1, f5, q_eq]
            by_cases a3 : T / 100 = T / 10 % 10 <;> by_cases a4 : 5 < T % 10 <;> first | (exfalso; apply ok; omega) | (simp only [a3, a4]; simp)
          · rw [e_isPersonN (Or.inr (by show nI 6 ≤ _; rw [q_le (by omega) (by omega)]; exact a2))]
            simp
      unfold wp_X8_say
      rw [y_0, y_5, e_in, y555, e_in]
      rcases w with w | w
      · rw [w, y_1, y9, e_in]
        rcases pk_ix answers (n := n) (by omega) with ha | ha | ⟨j, hj, rfl⟩
        · rw [e_isSayingN hM hW (Or.inl ha)]
          split <;> split <;> split <;> by_cases c5 : answers = -9 <;> simp [c5]
        · rw [e_isSayingN hM hW (Or.inr ha)]
          split <;> split <;> split <;> by_cases c5 : answers = -9 <;> simp [c5]
        · rw [e_isSayingY hM hW hj]
          split <;> split <;> split <;> by_cases c5 : nI j = -9 <;> simp [c5]
      · have : nI T < (0 : Int32) ∨ nI 555 < nI T := Or.inr (by rw [q_ltI (by omega) (by omega)]; exact w)
        rw [if_pos this]
        split <;> simp
  case pos =>
    obtain ⟨o1, o2, o3, o4⟩ := ok
    have hT5 : T ≤ 555 := by omega
    have tin : ∀ post : Int32 → Prop, wp_X8_in (nI T).toInt64 0 555 post = post 1 := fun post => by
      rw [y555, e_inY hT5 (by decide)]
    by_cases kb : kind < 0 ∨ nI 5 < kind
    · left
      refine ⟨-1, fun post => ?_, fun post => ?_⟩
      · have k6 : kind < 0 ∨ (6 : Int32) ≤ kind := kb.imp id (fun hh => by
          rw [Int32.le_iff_toInt_le]; rw [Int32.lt_iff_toInt_lt] at hh
          have e5 : (nI 5).toInt = 5 := by decide
          have e6 : (6 : Int32).toInt = 6 := by decide
          omega)
        unfold wp_X7_say
        rcases hN _ with e | e <;> rw [e] <;> by_cases c1 : kind < 0 <;> by_cases c2 : (6 : Int32) ≤ kind <;> simp [c1, c2] <;> (simp [c1, c2] at k6)
      · unfold wp_X8_say
        rw [y_0, y_5, e_in, if_pos kb]
        simp
    by_cases wb : weight < 1 ∨ nI 9 < weight
    · left
      have k1 : ¬ kind < 0 := fun hh => kb (Or.inl hh)
      have k2 : ¬ (6 : Int32) ≤ kind := fun hh => kb (Or.inr (Int32.lt_of_lt_of_le (by decide) hh))
      refine ⟨-1, fun post => ?_, fun post => ?_⟩
      · have w9 : weight < 1 ∨ (9 : Int32) < weight := wb
        unfold wp_X7_say
        rcases hN _ with e | e <;> rw [e] <;> by_cases c1 : weight < 1 <;> by_cases c2 : (9 : Int32) < weight <;> simp [k1, k2, c1, c2] <;> (simp [c1, c2] at w9)
      · unfold wp_X8_say
        rw [y_0, y_5, e_in, if_neg kb]
        simp only [← y_0, tin]
        rw [y_1, y9, e_in, if_pos wb]
        simp
    have k1 : ¬ kind < 0 := fun hh => kb (Or.inl hh)
    have k2 : ¬ (6 : Int32) ≤ kind := fun hh => kb (Or.inr (Int32.lt_of_lt_of_le (by decide) hh))
    have w1 : ¬ weight < 1 := fun hh => wb (Or.inl hh)
    have w2 : ¬ (9 : Int32) < weight := fun hh => wb (Or.inr hh)
    have w3 : ¬ (weight < 1 ∨ nI 9 < weight) := wb
    have ans : (wp_X1_hasNumber (nI n) answers = fun post => post 0) ∧ answers ≠ -9 ∧ (∀ post, wp_X8_isSaying now answers post = post 0) ∨ ∃ A, A ≤ n ∧ answers = ansI A ∧ ((A = 0 ∧ answers = -9) ∨ (A ≠ 0 ∧ ∀ post, wp_X8_isSaying now answers post = post 1)) := by
      by_cases c5 : answers = -9
      · exact Or.inr ⟨0, by omega, c5, Or.inl ⟨rfl, c5⟩⟩
      · rcases pk_ix answers (n := n) (by omega) with ha | ha | ⟨j, hj, rfl⟩
        · exact Or.inl ⟨funext fun post => e_hasNumN hW (Or.inl ha) post, c5, fun post => e_isSayingN hM hW (Or.inl ha) post⟩
        · exact Or.inl ⟨funext fun post => e_hasNumN hW (Or.inr ha) post, c5, fun post => e_isSayingN hM hW (Or.inr ha) post⟩
        · exact Or.inr ⟨j + 1, by omega, rfl, Or.inr ⟨by omega, fun post => e_isSayingY hM hW hj post⟩⟩
    rcases ans with ⟨g1, g2, g3⟩ | ⟨A, hA, rfl, hA2⟩
    · left
      refine ⟨-1, fun post => ?_, fun post => ?_⟩
      · unfold wp_X7_say
        rw [g1]
        simp [k1, k2, w1, w2, g2]
      · unfold wp_X8_say
        rw [y_0, y_5, e_in, if_neg kb]
        simp only [← y_0, tin]
        rw [y_1, y9, e_in, if_neg wb, g3]
        simp [g2]
    obtain ⟨K, hK, rfl⟩ : ∃ K, K < 2 ^ 31 ∧ kind = nI K := i_of k1
    have hK6 : K < 6 := by
      have : ¬ nI 6 ≤ nI K := k2
      rw [q_le (by omega) (by omega)] at this; omega
    obtain ⟨w, hw, rfl⟩ : ∃ w, w < 2 ^ 31 ∧ weight = nI w := i_of (fun hh => w1 (Int32.lt_trans hh (by decide)))
    have hw1 : 1 ≤ w := by
      have : ¬ nI w < nI 1 := w1
      rw [q_ltI (by omega) (by omega)] at this; omega
    have hw9 : w ≤ 9 := by
      have : ¬ nI 9 < nI w := w2
      rw [q_ltI (by omega) (by omega)] at this; omega
    have u1 : ¬ 6 ≤ T / 100 := by omega
    have u2 : ¬ 6 ≤ T / 10 % 10 := by omega
    have u3 : ¬ T / 100 = T / 10 % 10 := o3
    have f5 : ((5 : Int32) < nI (T % 10)) = (5 < T % 10) := q_ltI (a := 5) (by decide) (by omega)
    have u5 : ¬ 5 < T % 10 := by omega
    have e46 : ∀ post, wp_X7_say kinds whos toWhoms topics weights answered deeds (nI n) (nI s) (nI dn) (nI K) (nI T) (nI w) (ansI A) post = wb_X7_say_46 (nI K) (nI T) (nI w) (ansI A) post kinds whos toWhoms topics weights answered deeds (nI n) (nI s) (nI dn) := by
      intro post
      unfold wp_X7_say
      rw [e_hasAns (by omega) hA]
      rcases hA2 with ⟨rfl, c⟩ | ⟨c, _⟩
      · simp [k1, k2, w1, w2, c]
      · simp [k1, k2, w1, w2, c]
    have e54 : ∀ post, wp_X8_say now (nI K) (nI T) (nI w) (ansI A) post = wb_X8_say_54 (nI K) (nI T) (nI w) (ansI A) post now := by
      intro post
      unfold wp_X8_say
      rw [y_0, y_5, e_in, if_neg kb]
      simp only [← y_0, tin]
      rw [y_1, y9, e_in, if_neg wb]
      rcases hA2 with ⟨rfl, c⟩ | ⟨c, c2⟩
      · simp [c]
      · rw [c2]; by_cases c5 : ansI A = -9 <;> simp [c5]
    by_cases full : n = 12 ∨ dn = 40
    · left
      refine ⟨-2, fun post => ?_, fun post => ?_⟩
      · rw [e46]
        simp (disch := omega) only [wb_X7_say_46, q_lt0, q10, q100, q1010, m1, m2, z_6, q_le, q_eq, q_ltI, u1, u2, u3, o4, wp_X1_isFull, z_12, e_full hd40]
        rcases full with f | f <;> by_cases c1 : n < 12 <;> by_cases c2 : dn = 40 <;> first | omega | (simp only [c1, c2]; simp)
      · rw [e54]
        simp (disch := omega) only [wb_X8_say_54, q10, q100, q1010, m1, m2, e_isPersonY o2, n_1, f5, u5, q_eq, u3, hM.1, h1, z_12, z_40]
        rcases full with f | f <;> by_cases c1 : n = 12 <;> by_cases c2 : dn = 40 <;> first | omega | (simp only [c1, c2]; simp)
    · have n12 : n < 12 := by omega
      have n12' : ¬ n = 12 := by omega
      have d40 : dn < 40 := by omega
      have d40' : ¬ dn = 40 := by omega
      right
      refine ⟨n12, d40, fun f => if f = 0 then K else if f = 1 then T / 100 else if f = 2 then T / 10 % 10 else if f = 3 then T % 10 else if f = 4 then w else A, ⟨by simpa using hK6, by simpa using o1, by simpa using o2, by simpa using o3, by simpa using o4, by simpa using hw1, by simpa using hw9, by simpa using hA⟩, fun post => ?_, fun post => ?_⟩
      · rw [e46]
        have ep : nI (n + 1) - 1 = nI n := nI_pred n
        simp (disch := omega) only [wb_X7_say_46, q_lt0, q10, q100, q1010, m1, m2, z_6, q_le, q_eq, q_ltI, u1, u2, u3, o4, wp_X1_isFull, z_12, n12, e_full hd40, d40', wp_X1_add, q_in, q_cl, e_bit, q_or, wp_X1_noteComing, wp_X1_noteDeed, wp_X1_howMany, nI_1, ep]
        simp
      · rw [e54]
        have z100 : (100 : Int32) + nI n = nI (100 + n) := nI_add 100 n
        have X6 : ∃ X : Nat → Int32, X = upd (upd (upd (upd (upd (upd now (3 + n) (nI K)) (15 + n) (nI (T / 100))) (27 + n) (nI (T / 10 % 10))) (39 + n) (nI (T % 10))) (51 + n) (nI w)) (63 + n) (ansI A) := ⟨_, rfl⟩
        obtain ⟨X, hX⟩ := X6
        have g : ∀ q, q < 3 → X q = now q := fun q hq => by
          rw [hX, q_up (by omega), q_up (by omega), q_up (by omega), q_up (by omega), q_up (by omega), q_up (by omega)]
        have g2 : X 2 = nI s := by rw [g 2 (by omega)]; exact h2
        have g0 : ∀ v, upd X 2 v 0 = nI n := fun v => by rw [q_up (by omega), g 0 (by omega)]; exact hM.1
        have g1 : ∀ v v', upd (upd X 2 v) 0 v' 1 = nI dn := fun v v' => by rw [q_up (by omega), q_up (by omega), g 1 (by omega)]; exact h1
        have g1' : ∀ v v' v'', upd (upd (upd X 2 v) 0 v') (75 + dn) v'' 1 = nI dn := fun v v' v'' => by rw [q_up (by omega), g1]
        have e : wb_X8_say_54 (nI K) (nI T) (nI w) (ansI A) post now = post (nI n) (upd (upd (upd (upd X 2 (nI (s ||| 2 ^ n))) 0 (nI (n + 1))) (75 + dn) (nI (100 + n))) 1 (nI (dn + 1))) := by
          simp (disch := omega) only [wb_X8_say_54, q10, q100, q1010, m1, m2, e_isPersonY o2, n_1, f5, u5, q_eq, u3, hM.1, h1, z_12, z_40, n12', d40', z_3, z_15, z_27, z_39, z_51, z_63, nI_add, q_in, q_cl, ← hX, g2, q_sh, q_or, g0, nI_1, wp_X8_does, g1, z_75, z100, g1']
          simp
        rw [e, hX]
        rfl
/-- a heap and the reference's, whatever its size -/
def HQ (kinds whos toWhoms topics weights answered deeds : Nat → Int32) (sz sB dC : Int32) (now : Nat → Int32) : Prop := ∃ n s dn h, sz = nI n ∧ sB = nI s ∧ dC = nI dn ∧ HP kinds whos toWhoms topics weights answered deeds now n s dn h
theorem s_say (hP : HP kinds whos toWhoms topics weights answered deeds now n s dn h) (kind told weight answers : Int32) : wp_X7_say kinds whos toWhoms topics weights answered deeds (nI n) (nI s) (nI dn) kind told weight answers (fun a k' w' t' o' g' r' d' sz sB dC => wp_X8_say now kind told weight answers (fun a' now' => a = a' ∧ HQ k' w' t' o' g' r' d' sz sB dC now')) := by
  rcases e_say hP kind told weight answers with ⟨a, h7, h8⟩ | ⟨hn, hd, v, hv, h7, h8⟩
  · rw [h7, h8]
    exact ⟨rfl, n, s, dn, h, rfl, rfl, rfl, hP⟩
  · rw [h7, h8]
    exact ⟨rfl, n + 1, s ||| 2 ^ n, dn + 1, hN h n v, rfl, rfl, rfl, hP.say hn hd hv⟩
end HEA
