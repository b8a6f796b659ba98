/-! orders, the last: the class answers as the reference -/
theorem o_1 : (1 : Int64) = lN 1 := rfl
theorem o_0 : (0 : Int32).toInt64 = lN 0 := rfl
section OL
variable {kinds whos toWhoms topics weights answered now : Nat → Int32} {n s : Nat} {h : Nat → Nat → Nat}
theorem e_howManyO (hR : HR kinds whos toWhoms topics weights answered n h) (hW : HW n h) (hs : s < 2 ^ n) (post : Int64 → Prop) : wp_X2_howManyOrders kinds answered (nI n) (nI s) post = post (lN (WC n h lb0 s)) := by
  have hn := hW.1
  have h12 : 2 ^ n ≤ 4096 := Nat.pow_le_pow_right (n := 2) (by decide) hn
  have hs4 : s < 4096 := by omega
  have pl : ∀ k, k ≤ n → prodM k (fun i => s.testBit i) (fun i => pc (tr n h s i)) < 2 ^ 62 := fun k hk => by
    have a := prod_le (n := k) (B := 12) (P := fun i => s.testBit i) (f := fun i => pc (tr n h s i)) (by decide) (fun i _ => pc_le _)
    have b : 12 ^ k ≤ 12 ^ 12 := Nat.pow_le_pow_right (by decide) (by omega)
    have c : (12 : Nat) ^ 12 < 2 ^ 62 := by decide
    exact Nat.lt_of_le_of_lt (Nat.le_trans a b) c
  refine lpG (σ := Int64 × Int64 × Int32 × Int32) (fun K x => wb_X2_howManyOrders_11 kinds answered (nI n) (nI s) post (fun a b c d => K (a, b, c, d)) x.1 x.2.1 x.2.2.1 x.2.2.2) (fun z x => wl_X2_howManyOrders_11 kinds answered (nI n) (nI s) post z x.1 x.2.1 x.2.2.1 x.2.2.2) (fun _ => rfl) (fun _ _ => rfl) n (fun k => (lN (fc (cn k (fun e => s.testBit e))), lN (prodM k (fun i => s.testBit i) (fun i => pc (tr n h s i))), nI (cn k (fun e => s.testBit e)), nI k)) _ (fun k K hk => ?_) (fun K => ?_)
  · have c : ¬ n ≤ k := by omega
    have hc := cn_le k (fun e => s.testBit e)
    have hp1 := tr_pos hW s hk
    have hp2 := pc_le (tr n h s k)
    have ht := tr_lt hW s hk
    have hk2 : 2 ^ k < 4096 := pw_lt (n := 12) (by omega)
    have ew : ∀ post, wp_X1_hasToGoWith kinds answered (nI n) (nI s) (nI (2 ^ k)) post = post (nI (tr n h s k)) := fun post => e_hasToGoWith hR hW hs4 hk2 post
    have e1 : (if (1 : Int32) < nI (pc (tr n h s k)) then nI (pc (tr n h s k)) else 1) = nI (pc (tr n h s k)) := by
      by_cases e : pc (tr n h s k) = 1
      · rw [e]; rfl
      · rw [if_pos (show (1 : Int32) < nI (pc (tr n h s k)) from nI_lt (a := 1) (by omega) (by omega))]
    show wb_X2_howManyOrders_11 kinds answered (nI n) (nI s) post (fun a b c d => K (a, b, c, d)) (lN (fc (cn k (fun e => s.testBit e)))) (lN (prodM k (fun i => s.testBit i) (fun i => pc (tr n h s i)))) (nI (cn k (fun e => s.testBit e))) (nI k) = K (lN (fc (cn (k + 1) (fun e => s.testBit e))), lN (prodM (k + 1) (fun i => s.testBit i) (fun i => pc (tr n h s i))), nI (cn (k + 1) (fun e => s.testBit e)), nI (k + 1))
    simp (disch := omega) only [wb_X2_howManyOrders_11, wp_X1_howMany, q_le, c, e_isSaid, q_if0, e_bit, ew, e_bc, e1, nI_1, nI_l, lN_mul]
    cases hb : s.testBit k with
    | false => simp [cn, prodM, hb]
    | true => simp [cn, prodM, hb, fc, Nat.mul_comm]
  · have e0 : (lN (prodM n (fun i => s.testBit i) (fun i => pc (tr n h s i))) = 0) = False := by
      rw [l_eq0 (pl n (Nat.le_refl n))]
      have := HK_pos hW s
      unfold HKp at this
      simp; omega
    have ed : lN (fc (cn n (fun e => s.testBit e))) / lN (prodM n (fun i => s.testBit i) (fun i => pc (tr n h s i))) = lN (WC n h lb0 s) := by
      have hf := fc_le (pc s) (pc_le s)
      have hcn : cn n (fun e => s.testBit e) = pc s := (pc_cn hn hs).symm
      rw [hcn, l_div (by omega) (pl n (Nat.le_refl n)), ← hooks hW (s + 1) s (by omega) hs]
      congr 1
      exact Nat.mul_div_cancel _ (HK_pos hW s)
    show wb_X2_howManyOrders_11 kinds answered (nI n) (nI s) post (fun a b c d => K (a, b, c, d)) (lN (fc (cn n (fun e => s.testBit e)))) (lN (prodM n (fun i => s.testBit i) (fun i => pc (tr n h s i)))) (nI (cn n (fun e => s.testBit e))) (nI n) = _
    simp (disch := omega) only [wb_X2_howManyOrders_11, wp_X1_howMany, q_le, e0, ed]
    simp
theorem nd_self {s : Nat} (hs : s < 4096) : nd s s = 0 := by
  refine set_ext (n := 12) (nd_lt (by omega)) (by omega) fun e he => ?_
  rw [tb_nd (by omega)]
  cases s.testBit e <;> simp
theorem s_orders (hR : HR kinds whos toWhoms topics weights answered n h) (hM : MH now n h) (hW : HW n h) (hs : s < 2 ^ n) (hs2 : now 2 = nI s) (up lo : Int64) (costs : Nat → Int32) (ways : Nat → Int64) : wp_X7_orders kinds answered (nI n) (nI s) (fun a tp bo => wp_X8_orders now up lo costs ways (fun a' up' lo' _ _ => a = a' ∧ tp = up' ∧ bo = lo')) := by
  have hn := hW.1
  have h12 : 2 ^ n ≤ 4096 := Nat.pow_le_pow_right (n := 2) (by decide) hn
  have hs4 : s < 4096 := by omega
  obtain ⟨c', y', v1, v2⟩ := e_lay (last := -9) hM hW hs4 hs2 lb9 (s + 1) 0 costs ways (by omega) (fun u hu => by omega)
  have lay : ∀ post, wp_X8_layOrders now costs ways (-9) post = post c' y' := fun post => by
    unfold wp_X8_layOrders
    rw [hs2]
    exact v2 post
  have hws : y' s = lN (WC n h lb0 s) := (v1 s (by omega) (nd_self hs4)).2
  have hwl := WC_le hW hs
  simp (disch := omega) only [wp_X7_orders, e_howManyO hR hW hs, o_1, e_tell, wp_X8_orders, lay, hs2, q_in, q_cl, hws, e_fraction]
  simp
theorem s_last (hR : HR kinds whos toWhoms topics weights answered n h) (hM : MH now n h) (hW : HW n h) (hs : s < 2 ^ n) (hs2 : now 2 = nI s) (up lo : Int64) (costs : Nat → Int32) (ways : Nat → Int64) (i : Int32) : wp_X7_last kinds answered (nI n) (nI s) up lo i (fun a tp bo => wp_X8_last now up lo costs ways i (fun a' up' lo' _ _ => a = a' ∧ tp = up' ∧ bo = lo')) := by
  have hn := hW.1
  have h12 : 2 ^ n ≤ 4096 := Nat.pow_le_pow_right (n := 2) (by decide) hn
  have hs4 : s < 4096 := by omega
  rcases pk_ix i (n := n) (by omega) with hi | hi | ⟨j, hj, rfl⟩
  · simp only [wp_X7_last, e_hasNumN hW (Or.inl hi), wp_X8_last, e_isSayingN hM hW (Or.inl hi)]
    simp
  · simp only [wp_X7_last, e_hasNumN hW (Or.inr hi), wp_X8_last, e_isSayingN hM hW (Or.inr hi)]
    simp
  have hnum : ∀ post, wp_X1_hasNumber (nI n) (nI j) post = post 1 := fun post => by
    rw [e_hasNum (by omega) (by omega), if_pos hj]
  by_cases hb : s.testBit j = true
  · obtain ⟨c', y', v1, v2⟩ := e_lay (last := -9) hM hW hs4 hs2 lb9 (s + 1) 0 costs ways (by omega) (fun u hu => by omega)
    have lay : ∀ post, wp_X8_layOrders now costs ways (-9) post = post c' y' := fun post => by
      unfold wp_X8_layOrders
      rw [hs2]
      exact v2 post
    have hws : y' s = lN (WC n h lb0 s) := (v1 s (by omega) (nd_self hs4)).2
    have hwl := WC_le hW hs
    have hwp := WC_pos hW hs
    obtain ⟨c2, y2, u1, u2⟩ := e_lay (last := nI j) (lb := lbi j) hM hW hs4 hs2 (fun i hi => by rw [nI_eq (by omega) (by omega)]; unfold lbi; simp) (s + 1) 0 c' y' (by omega) (fun u hu => by omega)
    have lay2 : ∀ post, wp_X8_layOrders now c' y' (nI j) post = post c2 y2 := fun post => by
      unfold wp_X8_layOrders
      rw [hs2]
      exact u2 post
    have hw2 : y2 s = lN (WC n h (lbi j) s) := (u1 s (by omega) (nd_self hs4)).2
    have hwL := W_last hW hj (s + 1) s (by omega) hs hb
    have hcl := WC_le hW (t := clr s j) (clr_lt hs)
    have hw3 : WC n h (lbi j) s ≤ 479001600 := by rw [hwL]; split <;> omega
    have hp := pc_le s
    have hp0 : 0 < pc s := by
      rcases Nat.eq_zero_or_pos (pc s) with z | z
      · have := (pc_eq0 hs4).mp z
        rw [this] at hb; simp at hb
      · exact z
    have hk2 : 2 ^ j < 4096 := pw_lt (n := 12) (by omega)
    have ew : ∀ post, wp_X1_hasToGoWith kinds answered (nI n) (nI s) (nI (2 ^ j)) post = post (nI (tr n h s j)) := fun post => e_hasToGoWith hR hW hs4 hk2 post
    have ht := tr_lt hW s hj
    have hp2 := pc_le (tr n h s j)
    have n10 : ((1 : Int32) = 0) = False := by decide
    by_cases ha : aheadB h s j = true
    · have hr : rtB h s j = false := by unfold rtB; rw [ha]; simp
      have hwz : WC n h (lbi j) s = 0 := by rw [hwL, hr]; rfl
      obtain ⟨l1, l2⟩ := low (a := 0) (b := pc s) (c := 0) (d := WC n h lb0 s) hp0 (by omega) (by simp)
      simp (disch := omega) only [wp_X7_last, wb_X7_last_56, hnum, e_isSaid, hb, e_hasToGoAhead hR hW hj hs4, ha, wp_X1_saidBits, e_bc, o_0, nI_l, e_tell, wp_X8_last, e_isSayingY hM hW hj, e_mhas, hs2, lay, lay2, q_in, q_cl, hws, hw2, hwz, e_fraction, n10, q_if0]
      simp
      rw [Nat.div_self hp0, Nat.div_self (by omega)]
    · have hr : rtB h s j = true := (rt_iff h s j).mpr ⟨hb, ha⟩
      have hwz : WC n h (lbi j) s = WC n h lb0 (clr s j) := by rw [hwL, if_pos hr]
      have key : pc (tr n h s j) * WC n h lb0 s = WC n h lb0 (clr s j) * pc s := by
        have h1 := hooks hW (s + 1) s (by omega) hs
        have h2 := hooks hW (clr s j + 1) (clr s j) (by omega) (clr_lt hs)
        have h3 := HK_out hW hr hj
        have h4 := pc_clr (t := s) (i := j) (by omega) hb
        have h5 := HK_pos hW (clr s j)
        obtain ⟨q, hq⟩ : ∃ q, pc s = q + 1 := ⟨pc s - 1, by omega⟩
        have h6 : pc (clr s j) = q := by omega
        rw [h6] at h2
        rw [h3, hq, show fc (q + 1) = (q + 1) * fc q from rfl, ← h2] at h1
        rw [hq]
        refine Nat.eq_of_mul_eq_mul_right h5 ?_
        calc pc (tr n h s j) * WC n h lb0 s * HKp n h (clr s j) = WC n h lb0 s * (HKp n h (clr s j) * pc (tr n h s j)) := by ac_rfl
          _ = (q + 1) * (WC n h lb0 (clr s j) * HKp n h (clr s j)) := h1
          _ = WC n h lb0 (clr s j) * (q + 1) * HKp n h (clr s j) := by ac_rfl
      obtain ⟨l1, l2⟩ := low (a := pc (tr n h s j)) (b := pc s) (c := WC n h lb0 (clr s j)) (d := WC n h lb0 s) hp0 (by omega) key
      have ha' : aheadB h s j = false := by simpa using ha
      simp (disch := omega) only [wp_X7_last, wb_X7_last_56, hnum, e_isSaid, hb, e_hasToGoAhead hR hW hj hs4, ha', e_bit, ew, wp_X1_saidBits, e_bc, nI_l, e_tell, wp_X8_last, e_isSayingY hM hW hj, e_mhas, hs2, lay, lay2, q_in, q_cl, hws, hw2, hwz, e_fraction, n10, q_if0]
      simp
      exact ⟨congrArg lN l1, congrArg lN l2⟩
  · have hb' : s.testBit j = false := by simpa using hb
    have n10 : ((1 : Int32) = 0) = False := by decide
    simp (disch := omega) only [wp_X7_last, hnum, e_isSaid, hb', wp_X8_last, e_isSayingY hM hW hj, e_mhas, hs2, n10, q_if0]
    simp
end OL
