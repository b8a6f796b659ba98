/-! counts, bill, judge -/
theorem y_8 : (8 : Int64) = (nI 8).toInt64 := by decide
def KP (kept : Nat → Option Nat) (keptM : Nat → Int32) : Prop := ∀ k, k < 3 → (kept k = none ↔ keptM k = 0)
theorem least (P : Nat → Prop) : ∀ q, (∀ i, i < q → P i) ∨ ∃ j, j < q ∧ ¬ P j ∧ ∀ i, i < j → P i := by
  intro q
  induction q with
  | zero => exact Or.inl fun i hi => by omega
  | succ q ih =>
    rcases ih with h | ⟨j, h1, h2, h3⟩
    · by_cases hp : P q
      · refine Or.inl fun i hi => ?_
        by_cases hi2 : i = q
        · subst hi2; exact hp
        · exact h i (by omega)
      · exact Or.inr ⟨q, by omega, hp, h⟩
    · exact Or.inr ⟨j, by omega, h2, h3⟩
theorem e_there {k w : Nat} {m : Nat → Nat} {sz cl sz' cl' : Nat → Int32} (hS : SH k w m sz cl sz' cl') (hk : k < 100) (hw : w < 100) (post : Int32 → Prop) : wp_X5_howManyThere k sz post = post (nI (cn k (fun r => m r != 0))) := by
  refine lpG (σ := Int32 × Int32) (fun K x => wb_X5_howManyThere_4 k sz post (fun u v => K (u, v)) x.1 x.2) (fun z x => wl_X5_howManyThere_4 k sz post z x.1 x.2) (fun _ => rfl) (fun _ _ => rfl) k (fun j => (nI (cn j (fun r => m r != 0)), nI j)) _ (fun j K hj => ?_) (fun K => ?_)
  · have nk : ¬ k ≤ j := by omega
    obtain ⟨a, b, c, d⟩ := hS j hj
    show wb_X5_howManyThere_4 k sz post (fun u v => K (u, v)) (nI (cn j (fun r => m r != 0))) (nI j) = K (nI (cn (j + 1) (fun r => m r != 0)), nI (j + 1))
    simp (disch := omega) only [wb_X5_howManyThere_4, q_le, nk, e5_there (m := m j) hj (by omega) (by omega) b, nI_1]
    by_cases c1 : m j = 0 <;> simp [cn, c1]
  · show wb_X5_howManyThere_4 k sz post (fun u v => K (u, v)) _ (nI k) = _
    simp (disch := omega) only [wb_X5_howManyThere_4, q_le]
    simp
theorem e_keptN (kept : Nat → Option Nat) (post : Int32 → Prop) : wp_X7_howManyKept kept post = post (nI (cn 3 (fun k => (kept k).isSome))) := by
  refine lpG (σ := Int32 × Int32) (fun K x => wb_X7_howManyKept_4 kept post (fun u v => K (u, v)) x.1 x.2) (fun z x => wl_X7_howManyKept_4 kept post z x.1 x.2) (fun _ => rfl) (fun _ _ => rfl) 3 (fun j => (nI (cn j (fun k => (kept k).isSome)), nI j)) _ (fun j K hj => ?_) (fun K => ?_)
  · have nk : ¬ 3 ≤ j := by omega
    show wb_X7_howManyKept_4 kept post (fun u v => K (u, v)) (nI (cn j (fun k => (kept k).isSome))) (nI j) = K (nI (cn (j + 1) (fun k => (kept k).isSome)), nI (j + 1))
    simp (disch := omega) only [wb_X7_howManyKept_4, z_3, q_le, nk, q_in, q_cl, nI_1]
    cases c : kept j <;> simp [cn, c]
  · show wb_X7_howManyKept_4 kept post (fun u v => K (u, v)) _ (nI 3) = _
    simp (disch := omega) only [wb_X7_howManyKept_4, z_3, q_le]
    simp
section HE3
variable {kinds whos toWhoms topics weights answered now : Nat → Int32} {n s dn : Nat} {h : Nat → Nat → Nat}
theorem e_mprices (hM : MH now n h) (hW : HW n h) (hs : s < 4096) (hs2 : now 2 = nI s) {P : Nat} (hP : P < 64) (post : Int32 → Prop) : wp_X8_pricesOf now (nI P) post = post (nI (sumM n (fun e => s.testBit e && P.testBit (h 1 (rootS h e))) (priceS n h s))) := by
  have hn := hW.1
  refine lpG (σ := Int32 × Int32) (fun K x => wb_X8_pricesOf_4 now (nI P) post (fun u v => K (u, v)) x.1 x.2) (fun z x => wl_X8_pricesOf_4 now (nI P) post z x.1 x.2) (fun _ => rfl) (fun _ _ => rfl) n (fun k => (nI (sumM k (fun e => s.testBit e && P.testBit (h 1 (rootS h e))) (priceS n h s)), nI k)) _ (fun k K hk => ?_) (fun K => ?_)
  · have nk : ¬ n ≤ k := by omega
    have hr := root_lt hW hk
    have hb := hW.2 (rootS h k) (by omega)
    obtain ⟨r0, r1, r2, r3, r4, r5⟩ := hM.2 (rootS h k) (by omega)
    show wb_X8_pricesOf_4 now (nI P) post (fun u v => K (u, v)) (nI (sumM k (fun e => s.testBit e && P.testBit (h 1 (rootS h e))) (priceS n h s))) (nI k) = K (nI (sumM (k + 1) (fun e => s.testBit e && P.testBit (h 1 (rootS h e))) (priceS n h s)), nI (k + 1))
    simp (disch := omega) only [wb_X8_pricesOf_4, hM.1, hs2, q_le, nk, e_mhas, q_if0, e_rootOf hM hW, z_15, nI_add, q_in, q_cl, r1, wb_X8_pricesOf_51, wb_X8_pricesOf_52, e_mprice hM hW, q_a0, nI_1]
    cases c1 : s.testBit k <;> cases c2 : P.testBit (h 1 (rootS h k)) <;> simp [sumM, c1, c2]
  · show wb_X8_pricesOf_4 now (nI P) post (fun u v => K (u, v)) _ (nI n) = _
    simp (disch := omega) only [wb_X8_pricesOf_4, hM.1, q_le]
    simp
theorem prices63 (hW : HW n h) (s : Nat) : sumM n (fun e => s.testBit e && (63 : Nat).testBit (h 1 (rootS h e))) (priceS n h s) = sumM n (fun e => s.testBit e) (priceS n h s) := by
  refine sumM_congr (fun e he => ?_) (fun _ _ => rfl)
  have hr := root_lt hW he
  have hb := (hW.2 (rootS h e) (by omega)).2.1
  have : (63 : Nat).testBit (h 1 (rootS h e)) = true := by
    have := Nat.testBit_two_pow_sub_one 6 (h 1 (rootS h e))
    simpa [hb] using this
  rw [this, Bool.and_true]
theorem sumM_pos {n : Nat} {P : Nat → Bool} {f : Nat → Nat} {e : Nat} (he : e < n) (hp : P e = true) (hf : 1 ≤ f e) : 1 ≤ sumM n P f := by
  induction n with
  | zero => omega
  | succ n ih =>
    simp only [sumM]
    by_cases hn : e = n
    · subst hn; rw [if_pos hp]; omega
    · have := ih (by omega)
      split <;> omega
theorem price_pos (hW : HW n h) {i : Nat} (hi : i < n) (s : Nat) : 1 ≤ priceS n h s i := by
  have hb := hW.2 i hi
  unfold priceS prc
  split <;> omega
theorem tb_ex {s : Nat} (hs : s < 2 ^ n) (h0 : s ≠ 0) : ∃ e, e < n ∧ s.testBit e = true := by
  obtain ⟨e, he⟩ := Nat.exists_testBit_of_ne_zero h0
  refine ⟨e, ?_, he⟩
  rcases Nat.lt_or_ge e n with h | h
  · exact h
  · rw [lt_tb hs h] at he; exact absurd he (by simp)
theorem s_bill (hR : HR kinds whos toWhoms topics weights answered n h) (hM : MH now n h) (hW : HW n h) (hs : s < 2 ^ n) (hs2 : now 2 = nI s) {of fs : Nat → Int32} {la fi : Int32} (hT : TL of la fs fi) (tp bo : Int64) (p : Int32) : wp_X7_bill kinds whos toWhoms topics weights answered (nI n) (nI s) tp bo of la p (fun a tp' bo' of' la' => wp_X8_bill now tp bo fi fs p (fun a' up lo fi' fs' => a = a' ∧ tp' = up ∧ bo' = lo ∧ TL of' la' fs' fi')) := by
  have hn := hW.1
  have hs4 : s < 4096 := Nat.lt_of_lt_of_le hs (Nat.pow_le_pow_right (by decide) hn)
  rcases pk_ix p (n := 6) (by decide) with hp | hp | ⟨p, hp, rfl⟩
  · simp only [wp_X7_bill, e_personN (Or.inl hp), wp_X8_bill, e_isPersonN (Or.inl hp)]
    simp [hT]
  · simp only [wp_X7_bill, e_personN (Or.inr hp), wp_X8_bill, e_isPersonN (Or.inr hp)]
    simp [hT]
  by_cases h0 : s = 0
  · subst h0
    simp only [wp_X7_bill, e_personY hp, wp_X8_bill, e_isPersonY hp, n_1, wp_X1_saidBits, hs2, show (nI 0 = 0) = True from eq_true rfl, z_4]
    simp (disch := omega) only [e6_note, e8_found]
    simp
    exact hT.note (by omega) (by omega)
  · have e0 : (nI s = 0) = False := by rw [z_0, q_eq (by omega) (by omega)]; simp [h0]
    have bb : s &&& bm n (fun e => h 1 (rootS h e) == p) = bm n (fun e => (h 1 (rootS h e) == p) && s.testBit e) := by rw [Nat.and_comm]; exact and_bm hn _ _
    have bl : bm n (fun e => (h 1 (rootS h e) == p) && s.testBit e) < 4096 := bm_le n _ (N := 12) hn
    have e1 : sumM n (fun e => (bm n (fun e => (h 1 (rootS h e) == p) && s.testBit e)).testBit e) (priceS n h s) = sumM n (fun e => s.testBit e && (2 ^ p).testBit (h 1 (rootS h e))) (priceS n h s) := by
      refine sumM_congr (fun e he => ?_) (fun _ _ => rfl)
      rw [tb_bm, Nat.testBit_two_pow]
      by_cases c : h 1 (rootS h e) = p
      · simp [he, c]
      · have c2 : ¬ p = h 1 (rootS h e) := fun z => c z.symm
        simp [c, c2]
    have l1 : sumM n (fun e => s.testBit e && (2 ^ p).testBit (h 1 (rootS h e))) (priceS n h s) ≤ n * 30 := sumM_le fun e he => price_le hW he
    have l2 : sumM n (fun e => s.testBit e) (priceS n h s) ≤ n * 30 := sumM_le fun e he => price_le hW he
    have l3 : 1 ≤ sumM n (fun e => s.testBit e) (priceS n h s) := by
      obtain ⟨e, he, hb⟩ := tb_ex hs h0
      exact sumM_pos he hb (price_pos hW he s)
    have hp2 : 2 ^ p < 64 := pw_lt (n := 6) hp
    simp (disch := omega) only [wp_X7_bill, e_personY hp, wp_X8_bill, e_isPersonY hp, n_1, wp_X1_saidBits, hs2, e0, e_begunBy hR hW hp, q_and, bb, e_pricesOf hR hW, e1, nI_l, e_tell, q_sh, e_mprices hM hW hs4 hs2, z_63, prices63 hW, e_fraction]
    simp
    exact hT
end HE3
