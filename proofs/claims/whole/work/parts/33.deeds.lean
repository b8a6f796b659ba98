/-! deeds: unsay, undo, lots -/
def DK (deeds now : Nat → Int32) : Nat → Nat → Prop
  | 0, _ => True
  | k + 1, n => (deeds k = -1 ∧ 1 ≤ n ∧ now (75 + k) = nI (100 + (n - 1)) ∧ DK deeds now k (n - 1)) ∨ (∃ i, i < n ∧ deeds k = nI i ∧ now (75 + k) = nI i ∧ DK deeds now k n)
theorem DK.now {deeds now : Nat → Int32} {p : Nat} {v : Int32} : ∀ k n, DK deeds now k n → (p < 75 ∨ 75 + k ≤ p) → DK deeds (upd now p v) k n := by
  intro k
  induction k with
  | zero => intro n _ _; exact trivial
  | succ k ih =>
    intro n hd hp
    have e : upd now p v (75 + k) = now (75 + k) := by
      show (if 75 + k = p then v else now (75 + k)) = _
      rw [if_neg (by omega)]
    rcases hd with ⟨a, b, c, d⟩ | ⟨i, a, b, c, d⟩
    · exact Or.inl ⟨a, b, by rw [e]; exact c, ih (n - 1) d (by omega)⟩
    · exact Or.inr ⟨i, a, b, by rw [e]; exact c, ih n d (by omega)⟩
theorem DK.deeds {deeds now : Nat → Int32} {p : Nat} {v : Int32} : ∀ k n, DK deeds now k n → k ≤ p → DK (upd deeds p v) now k n := by
  intro k
  induction k with
  | zero => intro n _ _; exact trivial
  | succ k ih =>
    intro n hd hp
    have e : upd deeds p v k = deeds k := by
      show (if k = p then v else deeds k) = _
      rw [if_neg (by omega)]
    rcases hd with ⟨a, b, c, d⟩ | ⟨i, a, b, c, d⟩
    · exact Or.inl ⟨by rw [e]; exact a, b, c, ih (n - 1) d (by omega)⟩
    · exact Or.inr ⟨i, a, by rw [e]; exact b, c, ih n d (by omega)⟩
theorem MH.up {now : Nat → Int32} {n : Nat} {h : Nat → Nat → Nat} (hM : MH now n h) (hn : n ≤ 12) {p : Nat} {v : Int32} (hp : p = 1 ∨ p = 2 ∨ 75 ≤ p) : MH (upd now p v) n h := by
  have e : ∀ q, (q = 0 ∨ (3 ≤ q ∧ q < 75)) → upd now p v q = now q := fun q hq => by
    show (if q = p then v else now q) = _
    rw [if_neg (by omega)]
  refine ⟨by rw [e 0 (by omega)]; exact hM.1, fun j hj => ?_⟩
  rw [e (3 + j) (by omega), e (15 + j) (by omega), e (27 + j) (by omega), e (39 + j) (by omega), e (51 + j) (by omega), e (63 + j) (by omega)]
  exact hM.2 j hj
theorem HR.less {kinds whos toWhoms topics weights answered : Nat → Int32} {n m : Nat} {h : Nat → Nat → Nat} (hR : HR kinds whos toWhoms topics weights answered n h) (hm : m ≤ n) : HR kinds whos toWhoms topics weights answered m h := fun j hj => hR j (by omega)
theorem HW.less {n m : Nat} {h : Nat → Nat → Nat} (hW : HW n h) (hm : m ≤ n) : HW m h := ⟨Nat.le_trans hm hW.1, fun j hj => hW.2 j (by omega)⟩
/-- a heap beside the reference's -/
def HP (kinds whos toWhoms topics weights answered deeds now : Nat → Int32) (n s dn : Nat) (h : Nat → Nat → Nat) : Prop :=
  HR kinds whos toWhoms topics weights answered n h ∧ MH now n h ∧ HW n h ∧ s < 2 ^ n ∧ dn ≤ 40 ∧ now 1 = nI dn ∧ now 2 = nI s ∧ DK deeds now dn n
section HE7
variable {kinds whos toWhoms topics weights answered deeds now : Nat → Int32} {n s dn : Nat} {h : Nat → Nat → Nat}
theorem HP.s4 (hP : HP kinds whos toWhoms topics weights answered deeds now n s dn h) : s < 4096 := Nat.lt_of_lt_of_le hP.2.2.2.1 (Nat.pow_le_pow_right (by decide) hP.2.2.1.1)
/-- the reference after i was unsaid -/
def unN (now : Nat → Int32) (s dn i : Nat) : Nat → Int32 := upd (upd (upd now 2 (nI (clr s i))) (75 + dn) (nI i)) 1 (nI (dn + 1))
theorem HP.un (hP : HP kinds whos toWhoms topics weights answered deeds now n s dn h) {i : Nat} (hi : i < n) (hd : dn < 40) : HP kinds whos toWhoms topics weights answered (upd deeds dn (nI i)) (unN now s dn i) n (clr s i) (dn + 1) h := by
  obtain ⟨hR, hM, hW, hs, hd40, h1, h2, hD⟩ := hP
  have hn := hW.1
  refine ⟨hR, ((hM.up hn (by omega)).up hn (by omega)).up hn (by omega), hW, clr_lt hs, by omega, ?_, ?_, ?_⟩
  · simp [unN, upd]
  · show upd (upd (upd now 2 (nI (clr s i))) (75 + dn) (nI i)) 1 (nI (dn + 1)) 2 = _
    have : ¬ 2 = 75 + dn := by omega
    simp [upd, this]
  · refine Or.inr ⟨i, hi, by simp [upd], ?_, ?_⟩
    · have : ¬ 75 + dn = 1 := by omega
      simp [unN, upd, this]
    · have d1 := hD.deeds (p := dn) (v := nI i) _ _ (Nat.le_refl dn)
      have d2 := d1.now (p := 2) (v := nI (clr s i)) _ _ (by omega)
      have d3 := d2.now (p := 75 + dn) (v := nI i) _ _ (by omega)
      exact d3.now (p := 1) (v := nI (dn + 1)) _ _ (by omega)
theorem e_full (hd : dn ≤ 40) (post : Int32 → Prop) : wp_X1_deedsAreFull (nI dn) post = post (if dn = 40 then 1 else 0) := by
  simp (disch := omega) only [wp_X1_deedsAreFull, z_40, q_ltI]
  by_cases h : dn = 40
  · subst h; simp
  · have : dn < 40 := by omega
    simp [h, this]
theorem e_takeBack (hP : HP kinds whos toWhoms topics weights answered deeds now n s dn h) {i : Nat} (hi : i < n) (hd : dn < 40) (post : Int32 → (Nat → Int32) → Int32 → Int32 → Prop) : wp_X1_takeBack kinds whos toWhoms topics weights deeds (nI n) (nI s) (nI dn) (nI i) post = post (nI (priceS n h s i)) (upd deeds dn (nI i)) (nI (clr s i)) (nI (dn + 1)) := by
  obtain ⟨hR, hM, hW, hs, hd40, h1, h2, hD⟩ := hP
  have hn := hW.1
  have d40 : ¬ dn = 40 := by omega
  simp (disch := omega) only [wp_X1_takeBack, e_hasNum, if_pos hi, n_1, e_priceNow hR hW hi, e_bit, wp_X1_noteDeed, e_full hd40, d40, if_false, q_in, q_cl, q_nd, nI_1]
  simp [clr]
theorem e_unsays (hP : HP kinds whos toWhoms topics weights answered deeds now n s dn h) {i : Nat} (hi : i < n) (hd : dn < 40) (post : Int32 → (Nat → Int32) → Prop) : wp_X8_unsays now (nI i) post = post (nI (priceS n h s i)) (unN now s dn i) := by
  have hs4 := hP.s4
  obtain ⟨hR, hM, hW, hs, hd40, h1, h2, hD⟩ := hP
  have hn := hW.1
  have e1 : upd now 2 (nI (clr s i)) 1 = nI dn := by simp [upd, h1]
  have e2 : upd (upd now 2 (nI (clr s i))) (75 + dn) (nI i) 1 = nI dn := by
    have : ¬ 1 = 75 + dn := by omega
    simp [upd, h1, this]
  simp (disch := omega) only [wp_X8_unsays, h2, e_mprice hM hW hi hs4, q_sh, q_nd, show nd s (2 ^ i) = clr s i from rfl, wp_X8_does, e1, z_75, nI_add, q_in, q_cl, e2, nI_1]
  simp [unN]
theorem s_unsay (hP : HP kinds whos toWhoms topics weights answered deeds now n s dn h) (i : Int32) : wp_X7_unsay kinds whos toWhoms topics weights answered deeds (nI n) (nI s) (nI dn) i (fun a deeds' sB dC => wp_X8_unsay now i (fun a' now' => a = a' ∧ ∃ s' dn', sB = nI s' ∧ dC = nI dn' ∧ HP kinds whos toWhoms topics weights answered deeds' now' n s' dn' h)) := by
  have hs4 := hP.s4
  have hP' := hP
  obtain ⟨hR, hM, hW, hs, hd40, h1, h2, hD⟩ := hP
  have hn := hW.1
  rcases pk_ix i (n := n) (by omega) with hi | hi | ⟨i, hi, rfl⟩
  · simp only [wp_X7_unsay, e_hasNumN hW (Or.inl hi), wp_X8_unsay, e_isSayingN hM hW (Or.inl hi)]
    simp
    exact ⟨s, rfl, dn, rfl, hP'⟩
  · simp only [wp_X7_unsay, e_hasNumN hW (Or.inr hi), wp_X8_unsay, e_isSayingN hM hW (Or.inr hi)]
    simp
    exact ⟨s, rfl, dn, rfl, hP'⟩
  · simp (disch := omega) only [wp_X7_unsay, e_hasNum, if_pos hi, n_1, wp_X1_saidBits, e_mayGo hR hW hi hs4, e_full hd40, wp_X8_unsay, e_isSayingY hM hW hi, h2, e_mayBe hM hW hi hs4, h1, z_40, q_eq]
    cases c1 : mayS n h s i with
    | false =>
      simp
      exact ⟨s, rfl, dn, rfl, hP'⟩
    | true =>
      by_cases c2 : dn = 40
      · simp [c2]
        exact ⟨s, rfl, 40, rfl, by rw [← c2]; exact hP'⟩
      · have hd : dn < 40 := by omega
        simp only [c2, e_takeBack hP' hi hd, e_unsays hP' hi hd]
        simp
        exact ⟨clr s i, rfl, dn + 1, rfl, hP'.un hi hd⟩
end HE7
