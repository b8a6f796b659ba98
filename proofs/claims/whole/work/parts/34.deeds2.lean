/-! undo, lots -/
theorem q_up {f : Nat → Int32} {p q : Nat} {v : Int32} (h : q ≠ p) : upd f p v q = f q := if_neg h
theorem q_us {f : Nat → Int32} {p : Nat} {v : Int32} : upd f p v p = v := if_pos rfl
theorem q_am1 (x : Int32) : x + (-1) = x - 1 := (Int32.sub_eq_add_neg x 1).symm
theorem q_pl (n : Nat) (hn : n < 2 ^ 30) : (nI n - 1 < nI n) = True := by
  cases n with
  | zero => exact eq_true (by decide)
  | succ n => rw [nI_pred, q_ltI (by omega) (by omega)]; simp
theorem q_nm1 {i : Nat} (hi : i < 2 ^ 30) : (nI i = -1) = False := by
  have := q_szm (m := i + 1) (by omega)
  rw [show szI (i + 1) = nI i from rfl] at this
  rw [this]; simp
section HE8
variable {kinds whos toWhoms topics weights answered deeds : Nat → Int32} {h : Nat → Nat → Nat}
/-- what an undoing leaves -/
def UP (kinds whos toWhoms topics weights answered deeds now : Nat → Int32) (n s k : Nat) (h : Nat → Nat → Nat) : Prop :=
  HR kinds whos toWhoms topics weights answered n h ∧ MH now n h ∧ HW n h ∧ s < 2 ^ n ∧ now 2 = nI s ∧ DK deeds now k n
theorem e_undo (n0 : Nat) (hn0 : n0 ≤ 40) : ∀ d k now n s, k = n0 + d → k ≤ 40 → UP kinds whos toWhoms topics weights answered deeds now n s k h → ∃ n' s' now', UP kinds whos toWhoms topics weights answered deeds now' n' s' n0 h ∧ (∀ dC post, (∃ z, wl_X1_undoFrom_7 deeds (nI n0) post z (nI n) (nI s) dC (nI k - 1)) = post (nI n') (nI s') (nI n0)) ∧ (∀ post x2, (∃ z, wl_X8_undo_36 (nI n0) post z now x2 (nI k - 1)) = post x2 (upd now' 1 (nI n0))) := by
  intro d
  induction d with
  | zero =>
    intro k now n s hk hk40 hP
    have hk : k = n0 := hk
    subst hk
    refine ⟨n, s, now, hP, fun dC post => ?_, fun post x2 => ?_⟩
    · refine lp_en (σ := Int32 × Int32 × Int32 × Int32) (fun K x => wb_X1_undoFrom_7 deeds (nI k) post (fun a b c d => K (a, b, c, d)) x.1 x.2.1 x.2.2.1 x.2.2.2) (fun z x => wl_X1_undoFrom_7 deeds (nI k) post z x.1 x.2.1 x.2.2.1 x.2.2.2) (fun _ => rfl) (fun _ _ => rfl) (x := (nI n, nI s, dC, nI k - 1)) (fun K => ?_)
      show wb_X1_undoFrom_7 deeds (nI k) post (fun a b c d => K (a, b, c, d)) (nI n) (nI s) dC (nI k - 1) = _
      simp only [wb_X1_undoFrom_7, q_pl k (by omega)]
      simp
    · refine lp_en (σ := (Nat → Int32) × Int32 × Int32) (fun K x => wb_X8_undo_36 (nI k) post (fun a b c => K (a, b, c)) x.1 x.2.1 x.2.2) (fun z x => wl_X8_undo_36 (nI k) post z x.1 x.2.1 x.2.2) (fun _ => rfl) (fun _ _ => rfl) (x := (now, x2, nI k - 1)) (fun K => ?_)
      show wb_X8_undo_36 (nI k) post (fun a b c => K (a, b, c)) now x2 (nI k - 1) = _
      simp only [wb_X8_undo_36, q_pl k (by omega)]
      simp
  | succ d ih =>
    intro k now n s hk hk40 hP
    obtain ⟨k, rfl⟩ : ∃ k', k = k' + 1 := ⟨k - 1, by omega⟩
    obtain ⟨hR, hM, hW, hs, h2, hD⟩ := hP
    have hn := hW.1
    have nk : ¬ k < n0 := by omega
    have hs4 : s < 4096 := Nat.lt_of_lt_of_le hs (Nat.pow_le_pow_right (by decide) hn)
    rcases hD with ⟨a, b, c, dd⟩ | ⟨i, a, b, c, dd⟩
    · obtain ⟨n, rfl⟩ : ∃ m, n = m + 1 := ⟨n - 1, by omega⟩
      have h1 : n + 1 - 1 = n := by omega
      rw [h1] at c dd
      have e1 : upd now 2 (nI (clr s n)) 0 = nI (n + 1) := by rw [q_up (by omega)]; exact hM.1
      have hU : UP kinds whos toWhoms topics weights answered deeds (upd (upd now 2 (nI (clr s n))) 0 (nI n)) n (clr s n) k h := by
        refine ⟨hR.less (by omega), ⟨q_us, fun j hj => ?_⟩, hW.less (by omega), ?_, ?_, ?_⟩
        · have m := hM.2 j (by omega)
          have g : ∀ q, 3 ≤ q → upd (upd now 2 (nI (clr s n))) 0 (nI n) q = now q := fun q hq => by rw [q_up (by omega), q_up (by omega)]
          rw [g _ (by omega), g _ (by omega), g _ (by omega), g _ (by omega), g _ (by omega), g _ (by omega)]
          exact m
        · refine Nat.lt_pow_two_of_testBit _ fun e he => ?_
          by_cases h32 : e < 32
          · unfold clr
            rw [tb_nd h32, Nat.testBit_two_pow]
            by_cases hen : n = e
            · subst hen; simp
            · rw [lt_tb hs (by omega)]; rfl
          · exact lt_tb (n := n + 1) (clr_lt hs) (by omega)
        · rw [q_up (by omega)]; exact q_us
        · exact (dd.now (p := 2) _ _ (by omega)).now (p := 0) _ _ (by omega)
      obtain ⟨n', s', now', u1, u2, u3⟩ := ih k _ n (clr s n) (by omega) (by omega) hU
      refine ⟨n', s', now', u1, fun dC post => ?_, fun post x2 => ?_⟩
      · rw [← u2 dC post, nI_pred]
        refine lp_st (σ := Int32 × Int32 × Int32 × Int32) (fun K x => wb_X1_undoFrom_7 deeds (nI n0) post (fun a b c d => K (a, b, c, d)) x.1 x.2.1 x.2.2.1 x.2.2.2) (fun z x => wl_X1_undoFrom_7 deeds (nI n0) post z x.1 x.2.1 x.2.2.1 x.2.2.2) (fun _ => rfl) (fun _ _ => rfl) (x := (nI (n + 1), nI s, dC, nI k)) (y := (nI n, nI (clr s n), dC, nI k - 1)) (fun K => ?_)
        show wb_X1_undoFrom_7 deeds (nI n0) post (fun a b c d => K (a, b, c, d)) (nI (n + 1)) (nI s) dC (nI k) = K (nI n, nI (clr s n), dC, nI k - 1)
        simp (disch := omega) only [wb_X1_undoFrom_7, q_ltI, nk, q_in, q_cl, a, nI_pred, e_bit, q_nd, q_am1]
        simp [clr]
      · rw [← u3 post x2, nI_pred]
        refine lp_st (σ := (Nat → Int32) × Int32 × Int32) (fun K x => wb_X8_undo_36 (nI n0) post (fun a b c => K (a, b, c)) x.1 x.2.1 x.2.2) (fun z x => wl_X8_undo_36 (nI n0) post z x.1 x.2.1 x.2.2) (fun _ => rfl) (fun _ _ => rfl) (x := (now, x2, nI k)) (y := (upd (upd now 2 (nI (clr s n))) 0 (nI n), x2, nI k - 1)) (fun K => ?_)
        have l1 : (100 : Nat) ≤ 100 + n := by omega
        have e2 : nI (100 + n) - nI 100 = nI n := by
          rw [pk_sub (a := 100 + n) (b := 100) (by omega)]
          congr 1; omega
        show wb_X8_undo_36 (nI n0) post (fun a b c => K (a, b, c)) now x2 (nI k) = K (upd (upd now 2 (nI (clr s n))) 0 (nI n), x2, nI k - 1)
        simp (disch := omega) only [wb_X8_undo_36, q_ltI, nk, z_75, nI_add, q_in, q_cl, c, show (100 : Int32) = nI 100 from rfl, q_le, l1, e2, q_sh, h2, q_nd, show nd s (2 ^ n) = clr s n from rfl, e1, nI_pred, q_am1]
        simp
    · have hU : UP kinds whos toWhoms topics weights answered deeds (upd now 2 (nI (s ||| 2 ^ i))) n (s ||| 2 ^ i) k h :=
        ⟨hR, hM.up hn (by omega), hW, or_lt hs (pw_lt a), q_us, dd.now (p := 2) _ _ (by omega)⟩
      obtain ⟨n', s', now', u1, u2, u3⟩ := ih k _ n (s ||| 2 ^ i) (by omega) (by omega) hU
      refine ⟨n', s', now', u1, fun dC post => ?_, fun post x2 => ?_⟩
      · rw [← u2 dC post, nI_pred]
        refine lp_st (σ := Int32 × Int32 × Int32 × Int32) (fun K x => wb_X1_undoFrom_7 deeds (nI n0) post (fun a b c d => K (a, b, c, d)) x.1 x.2.1 x.2.2.1 x.2.2.2) (fun z x => wl_X1_undoFrom_7 deeds (nI n0) post z x.1 x.2.1 x.2.2.1 x.2.2.2) (fun _ => rfl) (fun _ _ => rfl) (x := (nI n, nI s, dC, nI k)) (y := (nI n, nI (s ||| 2 ^ i), dC, nI k - 1)) (fun K => ?_)
        show wb_X1_undoFrom_7 deeds (nI n0) post (fun a b c d => K (a, b, c, d)) (nI n) (nI s) dC (nI k) = K (nI n, nI (s ||| 2 ^ i), dC, nI k - 1)
        simp (disch := omega) only [wb_X1_undoFrom_7, q_ltI, nk, q_in, q_cl, b, q_nm1, e_bit, q_or, q_am1]
        simp
      · rw [← u3 post x2, nI_pred]
        refine lp_st (σ := (Nat → Int32) × Int32 × Int32) (fun K x => wb_X8_undo_36 (nI n0) post (fun a b c => K (a, b, c)) x.1 x.2.1 x.2.2) (fun z x => wl_X8_undo_36 (nI n0) post z x.1 x.2.1 x.2.2) (fun _ => rfl) (fun _ _ => rfl) (x := (now, x2, nI k)) (y := (upd now 2 (nI (s ||| 2 ^ i)), x2, nI k - 1)) (fun K => ?_)
        have l1 : ¬ (100 : Nat) ≤ i := by omega
        show wb_X8_undo_36 (nI n0) post (fun a b c => K (a, b, c)) now x2 (nI k) = K (upd now 2 (nI (s ||| 2 ^ i)), x2, nI k - 1)
        simp (disch := omega) only [wb_X8_undo_36, q_ltI, nk, z_75, nI_add, q_in, q_cl, c, show (100 : Int32) = nI 100 from rfl, q_le, l1, q_sh, h2, q_or, q_am1]
        simp
theorem s_undo {now : Nat → Int32} {n s dn : Nat} (hP : HP kinds whos toWhoms topics weights answered deeds now n s dn h) (k : Int32) : wp_X7_undo deeds (nI n) (nI s) (nI dn) k (fun a sz sB dC => wp_X8_undo now k (fun a' now' => a = a' ∧ ∃ n' s' dn', sz = nI n' ∧ sB = nI s' ∧ dC = nI dn' ∧ HP kinds whos toWhoms topics weights answered deeds now' n' s' dn' h)) := by
  have hP' := hP
  obtain ⟨hR, hM, hW, hs, hd40, h1, h2, hD⟩ := hP
  have hn := hW.1
  have same : ∃ n' s' dn', nI n = nI n' ∧ nI s = nI s' ∧ nI dn = nI dn' ∧ HP kinds whos toWhoms topics weights answered deeds now n' s' dn' h := ⟨n, s, dn, rfl, rfl, rfl, hP'⟩
  rcases pk_ix k (n := dn + 1) (by omega) with hk | hk | ⟨k, hk, rfl⟩
  · simp only [wp_X7_undo, wp_X1_howManyDeeds, hk, wp_X8_undo, h1, e_inL _ hk]
    simpa using same
  · have h3 : nI dn < k := q_lt_of_le (by omega) hk
    have h4 : ¬ k < 0 := Int32.not_lt.mpr (Int32.le_of_lt (Int32.lt_of_le_of_lt (nI_pos' (by omega)) h3))
    have h5 : ¬ k ≤ nI dn := Int32.not_le.mpr h3
    simp only [wp_X7_undo, wp_X1_howManyDeeds, h4, h5, wp_X8_undo, h1, e_inH h3]
    simpa using same
  · have hk2 : k ≤ dn := by omega
    obtain ⟨n', s', now', u1, u2, u3⟩ := e_undo k (by omega) (dn - k) dn now n s (by omega) hd40 ⟨hR, hM, hW, hs, h2, hD⟩
    simp (disch := omega) only [wp_X7_undo, wp_X1_howManyDeeds, q_lt0, q_le, hk2, wp_X8_undo, h1, e_inY, n_1, wp_X1_undoFrom, u2, u3]
    simp
    obtain ⟨v1, v2, v3, v4, v5, v6⟩ := u1
    refine ⟨n', rfl, s', rfl, k, rfl, v1, v2.up v3.1 (by omega), v3, v4, by omega, q_us, ?_, v6.now (p := 1) _ _ (by omega)⟩
    rw [q_up (by omega)]; exact v5
end HE8
