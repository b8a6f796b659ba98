/-! saying, colour, findings, end, wash: the class answers as the reference -/
theorem y_7a : (7 : Int64) = (nI 7).toInt64 := by decide
theorem q_nlt {a : Nat} (h : a < 2 ^ 31) : ¬ nI a < 0 := nI_pos h
theorem nI_mul (a b : Nat) : nI a * nI b = nI (a * b) := by
  apply Int32.toBitVec_inj.mp
  show BitVec.ofNat 32 a * BitVec.ofNat 32 b = BitVec.ofNat 32 (a * b)
  exact (BitVec.ofNat_mul _ _).symm
theorem withF_sub (h : Nat → Nat → Nat) {s b : Nat} (hb : ∀ e, b.testBit e = true → s.testBit e = true) : ∀ k e, (withF h s k b).testBit e = true → s.testBit e = true := by
  intro k
  induction k with
  | zero => exact hb
  | succ k ih =>
    intro e
    simp only [withF]
    split
    · rename_i c
      rw [Nat.testBit_or, Nat.testBit_two_pow]
      intro hh
      by_cases hk : k = e
      · subst hk
        simp at c
        exact c.1
      · simp [hk] at hh
        exact ih e hh
    · exact ih e
section HE2
variable {kinds whos toWhoms topics weights answered now : Nat → Int32} {n s : Nat} {h : Nat → Nat → Nat}
/-- what is told of a saying -/
def factS (n : Nat) (h : Nat → Nat → Nat) (s i k : Nat) : Int32 := if k < 5 then nI (h k i) else if k = 5 then ansI (h 5 i) else if k = 6 then nI (if s.testBit i then 1 else 0) else nI (priceS n h s i)
theorem e_fact (hR : HR kinds whos toWhoms topics weights answered n h) (hW : HW n h) (hs : s < 4096) {i k : Nat} (hi : i < n) (hk : k < 8) (post : Int32 → Prop) : wp_X1_fact kinds whos toWhoms topics weights answered (nI n) (nI s) (nI i) (nI k) post = post (factS n h s i k) := by
  have hn := hW.1
  obtain ⟨p0, p1, p2, p3, p4, p5⟩ := hR i hi
  have q : ∀ m : Nat, m < 8 → (nI k = nI m) = (k = m) := fun m hm => q_eq (by omega) (by omega)
  have hk8 : k = 0 ∨ k = 1 ∨ k = 2 ∨ k = 3 ∨ k = 4 ∨ k = 5 ∨ k = 6 ∨ k = 7 := by omega
  simp (disch := omega) only [wp_X1_fact, z_0, z_2, z_3, z_4, z_5, z_6, show (1 : Int32) = nI 1 from rfl, q_eq, q_in, q_cl, p0, p1, p2, p3, p4, p5, e_isSaid, e_priceNow hR hW]
  rcases hk8 with rfl | rfl | rfl | rfl | rfl | rfl | rfl | rfl <;> simp [factS]
  by_cases c : s.testBit i = true <;> simp [c, show nI 0 = 0 from rfl, show nI 1 = 1 from rfl]
theorem e_told (hM : MH now n h) (hW : HW n h) (hs : s < 4096) (hs2 : now 2 = nI s) {i k : Nat} (hi : i < n) (hk : k < 8) (post : Int32 → Prop) : wp_X8_told now (nI i) (nI k) post = post (factS n h s i k) := by
  have hn := hW.1
  obtain ⟨p0, p1, p2, p3, p4, p5⟩ := hM.2 i hi
  have hk8 : k = 0 ∨ k = 1 ∨ k = 2 ∨ k = 3 ∨ k = 4 ∨ k = 5 ∨ k = 6 ∨ k = 7 := by omega
  rcases hk8 with rfl | rfl | rfl | rfl | rfl | rfl | rfl | rfl <;>
    simp (disch := omega) only [wp_X8_told, z_3, z_6, z_12, nI_mul, nI_add, q_le, q_eq, q_in, q_cl, hs2, q_bit, e_mprice hM hW, p0, p1, p2, p3, p4, p5, Nat.reduceMul, Nat.reduceAdd] <;> simp [factS, p0, p1, p2, p3, p4, p5]
theorem s_saying (hR : HR kinds whos toWhoms topics weights answered n h) (hM : MH now n h) (hW : HW n h) (hs : s < 4096) (hs2 : now 2 = nI s) (lt : Int32) (i k : Int32) : wp_X7_saying lt kinds whos toWhoms topics weights answered (nI n) (nI s) i k (fun a lt' => wp_X8_saying now lt i k (fun a' as' => a = a' ∧ lt' = as')) := by
  have hn := hW.1
  rcases pk_ix i (n := n) (by omega) with hi | hi | ⟨i, hi, rfl⟩
  · simp only [wp_X7_saying, e_hasNumN hW (Or.inl hi), wp_X8_saying, e_isSayingN hM hW (Or.inl hi)]
    simp
  · simp only [wp_X7_saying, e_hasNumN hW (Or.inr hi), wp_X8_saying, e_isSayingN hM hW (Or.inr hi)]
    simp
  rcases pk_ix k (n := 8) (by decide) with hk | hk | ⟨k, hk, rfl⟩
  · simp (disch := omega) only [wp_X7_saying, e_hasNum, wp_X8_saying, e_isSayingY hM hW, if_pos hi, n_1, y_7a, e_inL _ hk, hk]
    simp
  · have h1 : ¬ k < 0 := Int32.not_lt.mpr (Int32.le_trans (by decide) hk)
    have h2 : ¬ k < nI 8 := Int32.not_lt.mpr hk
    have h3 : nI 7 < k := Int32.lt_of_lt_of_le (by decide) hk
    simp (disch := omega) only [wp_X7_saying, e_hasNum, wp_X8_saying, e_isSayingY hM hW, if_pos hi, n_1, y_7a, e_inH h3, h1, h2, z_8]
    simp
  · simp (disch := omega) only [wp_X7_saying, e_hasNum, wp_X8_saying, e_isSayingY hM hW, if_pos hi, n_1, y_7a, e_inY, q_lt0, z_8, q_ltI, hk, e_fact hR hW hs, e_told hM hW hs hs2, wp_X8_tell]
    simp
theorem s_colour (hR : HR kinds whos toWhoms topics weights answered n h) (hM : MH now n h) (hW : HW n h) (hs : s < 4096) (hs2 : now 2 = nI s) (i k : Int32) : wp_X7_colour kinds topics answered (nI n) (nI s) i k (fun a => wp_X8_colour now i k (fun a' => a = a')) := by
  have hn := hW.1
  rcases pk_ix i (n := n) (by omega) with hi | hi | ⟨i, hi, rfl⟩
  · simp only [wp_X7_colour, e_hasNumN hW (Or.inl hi), wp_X8_colour, e_isSayingN hM hW (Or.inl hi)]
    simp
  · simp only [wp_X7_colour, e_hasNumN hW (Or.inr hi), wp_X8_colour, e_isSayingN hM hW (Or.inr hi)]
    simp
  have y20 : (20 : Int64) = (nI 20).toInt64 := y_20
  rcases pk_ix k (n := 21) (by decide) with hk | hk | ⟨k, hk, rfl⟩
  · simp (disch := omega) only [wp_X7_colour, e_hasNum, wp_X8_colour, e_isSayingY hM hW, if_pos hi, n_1, y20, e_inL _ hk, hk]
    simp
  · have h1 : ¬ k < 0 := Int32.not_lt.mpr (Int32.le_trans (by decide) hk)
    have h3 : nI 20 < k := Int32.lt_of_lt_of_le (by decide) hk
    have h2 : ¬ k ≤ nI 20 := Int32.not_le.mpr h3
    simp (disch := omega) only [wp_X7_colour, e_hasNum, wp_X8_colour, e_isSayingY hM hW, if_pos hi, n_1, y20, e_inH h3, h1, h2, z_20]
    simp
  · have hk20 : k ≤ 20 := by omega
    obtain ⟨p0, p1, p2, p3, p4, p5⟩ := hR i hi
    obtain ⟨r0, r1, r2, r3, r4, r5⟩ := hM.2 i hi
    have hb := hW.2 i hi
    have ab : bm n (fun e => ansB h i e && s.testBit e) < 4096 := bm_le n _ (N := 12) hn
    have e2 : cn n (fun e => ansB h i e && s.testBit e) = nAns n h s i := cn_congr fun e _ => Bool.and_comm _ _
    simp (disch := omega) only [wp_X7_colour, e_hasNum, wp_X8_colour, e_isSayingY hM hW, if_pos hi, n_1, y20, e_inY, q_lt0, z_20, q_le, hk20, e_answerers hR hW, wp_X1_saidBits, q_and, and_bm, e_bc, pc_bm, e2, z_5, e_isOf hR hW, wb_X7_colour_58, wp_X1_topicOf, q_in, q_cl, p3, hs2, e_answering hM hW, z_3, z_39, nI_add, r0, r3, q_eq, wb_X8_colour_50, z_2, q_a0]
    by_cases c : h 0 i = 5 <;> simp [isOfB, c]
theorem s_findings {of fs : Nat → Int32} {la fi : Int32} (hT : TL of la fs fi) (f : Int32) : wp_X7_findings of f (fun a => wp_X8_findings fs f (fun a' => a = a')) := by
  rcases pk_ix f (n := 6) (by decide) with hf | hf | ⟨f, hf, rfl⟩
  · have h1 : f < 1 := Int32.lt_trans hf (by decide)
    simp (disch := omega) only [wp_X7_findings, wp_X8_findings, y_1, y_5, e_in, h1]
    simp
  · have h1 : ¬ f < 1 := Int32.not_lt.mpr (Int32.le_trans (by decide) hf)
    have h3 : nI 5 < f := Int32.lt_of_lt_of_le (by decide) hf
    have h2 : ¬ f ≤ nI 5 := Int32.not_le.mpr h3
    simp (disch := omega) only [wp_X7_findings, wp_X8_findings, y_1, y_5, e_in, h1, h2, h3, z_5]
    simp
  · by_cases h0 : f = 0
    · subst h0
      have h1 : nI 0 < 1 := by decide
      simp (disch := omega) only [wp_X7_findings, wp_X8_findings, y_1, y_5, e_in, h1]
      simp
    · have h1 : ¬ nI f < 1 := by
        show ¬ nI f < nI 1
        rw [q_ltI (by omega) (by omega)]; omega
      have h2 : f ≤ 5 := by omega
      simp (disch := omega) only [wp_X7_findings, wp_X8_findings, e_inYc, y_5, h1, z_5, q_le, h2, wp_X6_howOften, q_in, q_cl]
      simp [hT.2 f (by omega) h2]
theorem e_isPersonY {p : Nat} (hp : p < 6) (post : Int32 → Prop) : wp_X8_isPerson (nI p) post = post 1 := by
  unfold wp_X8_isPerson
  rw [y_5, e_inY (by omega) (by omega)]
theorem e_isPersonN {p : Int32} (hp : p < 0 ∨ nI 6 ≤ p) (post : Int32 → Prop) : wp_X8_isPerson p post = post 0 := by
  unfold wp_X8_isPerson
  rcases hp with hp | hp
  · rw [y_5, e_inL _ hp]
  · rw [y_5, e_inH (Int32.lt_of_lt_of_le (by decide) hp)]
theorem e_personY {p : Nat} (hp : p < 6) (post : Int32 → Prop) : wp_X0_hasNumber (nI p) post = post 1 := by
  have : ¬ 6 ≤ p := by omega
  simp (disch := omega) only [wp_X0_hasNumber, q_lt0, z_6, q_le, this]
  simp
theorem e_personN {p : Int32} (hp : p < 0 ∨ nI 6 ≤ p) (post : Int32 → Prop) : wp_X0_hasNumber p post = post 0 := by
  unfold wp_X0_hasNumber
  rcases hp with hp | hp
  · simp [hp]
  · have h1 : ¬ p < 0 := Int32.not_lt.mpr (Int32.le_trans (by decide) hp)
    have h2 : (6 : Int32) ≤ p := hp
    simp [h1, h2]
theorem e_mend2 (hM : MH now n h) (hW : HW n h) (hs : s < 4096) (hs2 : now 2 = nI s) {b : Nat} (hb : b < 4096) (hbs : ∀ e, b.testBit e = true → s.testBit e = true) (post : Int32 → Int32 → Prop) (as : Int32) : (∃ zn, wl_X8_end_82 now post zn as (nI b) 0) = post (nI (withF h s n b)) (nI (pc (withF h s n b))) := by
  have hn := hW.1
  refine lpG (σ := Int32 × Int32 × Int32) (fun K x => wb_X8_end_82 now post (fun a u v => K (a, u, v)) x.1 x.2.1 x.2.2) (fun z x => wl_X8_end_82 now post z x.1 x.2.1 x.2.2) (fun _ => rfl) (fun _ _ => rfl) n (fun k => (as, nI (withF h s k b), nI k)) _ (fun k K hk => ?_) (fun K => ?_)
  · have nk : ¬ n ≤ k := by omega
    have hl := withF_lt h s (k := k) (by omega) hb
    have h1 := hW.an hk
    obtain ⟨r0, r1, r2, r3, r4, r5⟩ := hM.2 k hk
    show wb_X8_end_82 now post (fun a u v => K (a, u, v)) as (nI (withF h s k b)) (nI k) = K (as, nI (withF h s (k + 1) b), nI (k + 1))
    simp (disch := omega) only [wb_X8_end_82, hM.1, hs2, q_le, nk, z_63, nI_add, q_in, q_cl, r5, q_a9, wb_X8_end_138, wb_X8_end_139, e_mhas, q_if0, q_o0, q_sh, q_or, nI_1]
    cases h5 : h 5 k with
    | zero => cases s.testBit k <;> simp [withF, aheadB, h5]
    | succ j =>
      have hj : j < n := by omega
      have hb := hW.2 j hj
      have sub := withF_sub h hbs k j
      obtain ⟨t0, t1, t2, t3, t4, t5⟩ := hM.2 j hj
      simp (disch := omega) only [show ansI (j + 1) = nI j from rfl, e_mhas, q_if0, z_3, nI_add, q_in, q_cl, t0, z_4, q_eq]
      cases c1 : s.testBit k <;> cases c2 : (withF h s k b).testBit j <;> by_cases c3 : h 0 j = 4 <;> cases c4 : s.testBit j <;> first | (rw [c2, c4] at sub; simp at sub; done) | simp [withF, aheadB, h5, c1, c2, c3, c4]
  · have hl := withF_lt h s (k := n) hn hb
    show wb_X8_end_82 now post (fun a u v => K (a, u, v)) as (nI (withF h s n b)) (nI n) = _
    simp (disch := omega) only [wb_X8_end_82, hM.1, q_le, e_mbits, wp_X8_answer]
    simp
theorem btw_bm (hW : HW n h) {p q : Nat} : bm n (btw h p q) < 4096 := bm_le n _ (N := 12) hW.1
theorem e_mend (hM : MH now n h) (hW : HW n h) (hs : s < 4096) (hs2 : now 2 = nI s) {p q : Nat} (hp : p < 6) (hq : q < 6) (post : Int32 → Int32 → Prop) (as : Int32) : (∃ zn, wl_X8_end_26 now (nI p) (nI q) post zn as 0 0) = post (nI (withF h s n (bm n (fun e => btw h p q e && s.testBit e)))) (nI (pc (withF h s n (bm n (fun e => btw h p q e && s.testBit e))))) := by
  have hn := hW.1
  have hl : ∀ k, k ≤ n → bm k (fun e => btw h p q e && s.testBit e) < 4096 := fun k hk => bm_le k _ (N := 12) (by omega)
  refine lpG (σ := Int32 × Int32 × Int32) (fun K x => wb_X8_end_26 now (nI p) (nI q) post (fun a u v => K (a, u, v)) x.1 x.2.1 x.2.2) (fun z x => wl_X8_end_26 now (nI p) (nI q) post z x.1 x.2.1 x.2.2) (fun _ => rfl) (fun _ _ => rfl) n (fun k => (as, nI (bm k (fun e => btw h p q e && s.testBit e)), nI k)) _ (fun k K hk => ?_) (fun K => ?_)
  · have nk : ¬ n ≤ k := by omega
    show wb_X8_end_26 now (nI p) (nI q) post (fun a u v => K (a, u, v)) as (nI (bm k (fun e => btw h p q e && s.testBit e))) (nI k) = K (as, nI (bm (k + 1) (fun e => btw h p q e && s.testBit e)), nI (k + 1))
    simp (disch := omega) only [wb_X8_end_26, hM.1, hs2, q_le, nk, e_mhas, e_isBetween hM hW, q_if0, q_o0, q_sh, q_or, nI_1]
    cases c1 : s.testBit k <;> cases c2 : btw h p q k <;> simp [bm, c1, c2]
  · show wb_X8_end_26 now (nI p) (nI q) post (fun a u v => K (a, u, v)) as (nI (bm n (fun e => btw h p q e && s.testBit e))) (nI n) = _
    have q := e_mend2 hM hW hs hs2 (hl n (Nat.le_refl n)) (fun e he => by rw [tb_bm] at he; simp at he; exact he.2.2) post as
    simp (disch := omega) only [wb_X8_end_26, hM.1, q_le, q]
    simp
theorem s_end (hR : HR kinds whos toWhoms topics weights answered n h) (hM : MH now n h) (hW : HW n h) (hs : s < 4096) (hs2 : now 2 = nI s) (lt : Int32) (p q : Int32) : wp_X7_end lt kinds whos toWhoms answered (nI n) (nI s) p q (fun a lt' => wp_X8_end now lt p q (fun a' as' => a = a' ∧ lt' = as')) := by
  have hn := hW.1
  rcases pk_ix p (n := 6) (by decide) with hp | hp | ⟨p, hp, rfl⟩
  · simp only [wp_X7_end, e_personN (Or.inl hp), wp_X8_end, e_isPersonN (Or.inl hp)]
    simp
  · simp only [wp_X7_end, e_personN (Or.inr hp), wp_X8_end, e_isPersonN (Or.inr hp)]
    simp
  rcases pk_ix q (n := 6) (by decide) with hq | hq | ⟨q, hq, rfl⟩
  · simp only [wp_X7_end, e_personY hp, e_personN (Or.inl hq), wp_X8_end, e_isPersonY hp, e_isPersonN (Or.inl hq)]
    simp
  · simp only [wp_X7_end, e_personY hp, e_personN (Or.inr hq), wp_X8_end, e_isPersonY hp, e_isPersonN (Or.inr hq)]
    simp
  · have hb : bm n (fun e => btw h p q e && s.testBit e) < 4096 := bm_le n _ (N := 12) hn
    have hl := withF_lt h s hn hb
    simp (disch := omega) only [wp_X7_end, e_personY hp, e_personY hq, wp_X8_end, e_isPersonY hp, e_isPersonY hq, n_1, e_between hR hW, wp_X1_saidBits, q_and, and_bm, e_hasToGoWith hR hW, e_bc, e_mend hM hW hs hs2 hp hq]
    by_cases c : nI p = nI q <;> simp [c]
/-- those who begin between two -/
def cb (n : Nat) (h : Nat → Nat → Nat) (s p q : Nat) : Nat := cn n (fun e => s.testBit e && (h 5 e == 0 && (h 1 e == p && h 2 e == q)))
def mn (n : Nat) (h : Nat → Nat → Nat) (s p q : Nat) : Nat := if cb n h s q p < cb n h s p q then cb n h s q p else cb n h s p q
def sw1 (f : Nat → Nat) : Nat → Nat
  | 0 => 0
  | k + 1 => sw1 f k + f k
theorem e_firsts (hM : MH now n h) (hW : HW n h) (hs : s < 4096) (hs2 : now 2 = nI s) {p q : Nat} (hp : p < 6) (hq : q < 6) (post : Int32 → Prop) : wp_X8_firsts now (nI p) (nI q) post = post (nI (cb n h s p q)) := by
  have hn := hW.1
  refine lpG (σ := Int32 × Int32) (fun K x => wb_X8_firsts_5 now (nI p) (nI q) post (fun u v => K (u, v)) x.1 x.2) (fun z x => wl_X8_firsts_5 now (nI p) (nI q) post z x.1 x.2) (fun _ => rfl) (fun _ _ => rfl) n (fun k => (nI (cn k (fun e => s.testBit e && (h 5 e == 0 && (h 1 e == p && h 2 e == q)))), nI k)) _ (fun k K hk => ?_) (fun K => ?_)
  · have nk : ¬ n ≤ k := by omega
    have hb := hW.2 k hk
    obtain ⟨r0, r1, r2, r3, r4, r5⟩ := hM.2 k hk
    show wb_X8_firsts_5 now (nI p) (nI q) post (fun u v => K (u, v)) (nI (cn k (fun e => s.testBit e && (h 5 e == 0 && (h 1 e == p && h 2 e == q))))) (nI k) = K (nI (cn (k + 1) (fun e => s.testBit e && (h 5 e == 0 && (h 1 e == p && h 2 e == q)))), nI (k + 1))
    simp (disch := omega) only [wb_X8_firsts_5, hM.1, hs2, q_le, nk, z_63, z_15, z_27, nI_add, q_in, q_cl, r5, r1, r2, q_a9, e_mhas, q_if0, q_eq, q_a0, nI_1]
    cases c : s.testBit k <;> by_cases c1 : h 5 k = 0 <;> by_cases c2 : h 1 k = p <;> by_cases c3 : h 2 k = q <;> simp [cn, c, c1, c2, c3]
  · show wb_X8_firsts_5 now (nI p) (nI q) post (fun u v => K (u, v)) _ (nI n) = _
    simp (disch := omega) only [wb_X8_firsts_5, hM.1, q_le]
    simp [cb]
theorem e_wash1 (hR : HR kinds whos toWhoms topics weights answered n h) (hW : HW n h) (hs : s < 4096) (K4 : Int32 → Int32 → Prop) {p : Nat} (hp : p < 6) (a : Nat) : (∃ zn, wl_X7_wash_14 whos toWhoms answered (nI n) (nI s) K4 zn (nI a) (nI p) (nI (p + 1))) = K4 (nI (a + sw1 (fun j => mn n h s p (p + 1 + j)) (5 - p))) (nI (p + 1)) := by
  have hn := hW.1
  have q := lpG (σ := Int32 × Int32 × Int32) (fun K x => wb_X7_wash_14 whos toWhoms answered (nI n) (nI s) K4 (fun u v w => K (u, v, w)) x.1 x.2.1 x.2.2) (fun z x => wl_X7_wash_14 whos toWhoms answered (nI n) (nI s) K4 z x.1 x.2.1 x.2.2) (fun _ => rfl) (fun _ _ => rfl) (5 - p) (fun k => (nI (a + sw1 (fun j => mn n h s p (p + 1 + j)) k), nI p, nI (p + 1 + k))) (K4 (nI (a + sw1 (fun j => mn n h s p (p + 1 + j)) (5 - p))) (nI (p + 1))) ?_ ?_
  · simpa [sw1] using q
  · intro k K hk
    have nk : ¬ 6 ≤ p + 1 + k := by omega
    have l1 := cn_le n (fun e => s.testBit e && (h 5 e == 0 && (h 1 e == p && h 2 e == p + 1 + k)))
    have l2 := cn_le n (fun e => s.testBit e && (h 5 e == 0 && (h 1 e == p + 1 + k && h 2 e == p)))
    show wb_X7_wash_14 whos toWhoms answered (nI n) (nI s) K4 (fun u v w => K (u, v, w)) (nI (a + sw1 (fun j => mn n h s p (p + 1 + j)) k)) (nI p) (nI (p + 1 + k)) = K (nI (a + sw1 (fun j => mn n h s p (p + 1 + j)) (k + 1)), nI p, nI (p + 1 + (k + 1)))
    simp (disch := omega) only [wb_X7_wash_14, z_6, q_le, nk, e_saidBeginnings hR hW, q_ltI, nI_1]
    have e1 : a + sw1 (fun j => mn n h s p (p + 1 + j)) (k + 1) = a + sw1 (fun j => mn n h s p (p + 1 + j)) k + mn n h s p (p + 1 + k) := (Nat.add_assoc _ _ _).symm
    rw [e1]
    show _ = K (_, _, nI (p + 1 + k + 1))
    generalize a + sw1 (fun j => mn n h s p (p + 1 + j)) k = w
    unfold mn cb
    split <;> simp [nI_add, *]
  · intro K
    have h6 : p + 1 + (5 - p) = 6 := by omega
    show wb_X7_wash_14 whos toWhoms answered (nI n) (nI s) K4 (fun u v w => K (u, v, w)) _ (nI p) (nI (p + 1 + (5 - p))) = _
    simp (disch := omega) only [wb_X7_wash_14, z_6, q_le, h6, nI_1]
    simp
theorem e_mwash1 (hM : MH now n h) (hW : HW n h) (hs : s < 4096) (hs2 : now 2 = nI s) (K4 : Int32 → Int32 → Prop) {p : Nat} (hp : p < 6) (a : Nat) : (∃ zn, wl_X8_wash_14 now K4 zn (nI a) (nI p) (nI (p + 1))) = K4 (nI (a + sw1 (fun j => mn n h s p (p + 1 + j)) (5 - p))) (nI (p + 1)) := by
  have hn := hW.1
  have q := lpG (σ := Int32 × Int32 × Int32) (fun K x => wb_X8_wash_14 now K4 (fun u v w => K (u, v, w)) x.1 x.2.1 x.2.2) (fun z x => wl_X8_wash_14 now K4 z x.1 x.2.1 x.2.2) (fun _ => rfl) (fun _ _ => rfl) (5 - p) (fun k => (nI (a + sw1 (fun j => mn n h s p (p + 1 + j)) k), nI p, nI (p + 1 + k))) (K4 (nI (a + sw1 (fun j => mn n h s p (p + 1 + j)) (5 - p))) (nI (p + 1))) ?_ ?_
  · simpa [sw1] using q
  · intro k K hk
    have nk : ¬ 6 ≤ p + 1 + k := by omega
    have l1 : cb n h s p (p + 1 + k) ≤ n := cn_le n _
    have l2 : cb n h s (p + 1 + k) p ≤ n := cn_le n _
    show wb_X8_wash_14 now K4 (fun u v w => K (u, v, w)) (nI (a + sw1 (fun j => mn n h s p (p + 1 + j)) k)) (nI p) (nI (p + 1 + k)) = K (nI (a + sw1 (fun j => mn n h s p (p + 1 + j)) (k + 1)), nI p, nI (p + 1 + (k + 1)))
    simp (disch := omega) only [wb_X8_wash_14, z_6, q_le, nk, e_firsts hM hW hs hs2, nI_1]
    have e1 : a + sw1 (fun j => mn n h s p (p + 1 + j)) (k + 1) = a + sw1 (fun j => mn n h s p (p + 1 + j)) k + mn n h s p (p + 1 + k) := (Nat.add_assoc _ _ _).symm
    rw [e1]
    show _ = K (_, _, nI (p + 1 + k + 1))
    generalize a + sw1 (fun j => mn n h s p (p + 1 + j)) k = w
    unfold mn
    generalize cb n h s p (p + 1 + k) = u at *
    generalize cb n h s (p + 1 + k) p = v at *
    by_cases c : v < u
    · have c1 : v ≤ u := by omega
      simp [c, c1, nI_add]
    · by_cases c1 : v ≤ u
      · have c2 : v = u := by omega
        simp [c2, nI_add]
      · have c2 : u < v := by omega
        simp [c, c1, nI_add]
  · intro K
    have h6 : p + 1 + (5 - p) = 6 := by omega
    show wb_X8_wash_14 now K4 (fun u v w => K (u, v, w)) _ (nI p) (nI (p + 1 + (5 - p))) = _
    simp (disch := omega) only [wb_X8_wash_14, z_6, q_le, h6, nI_1]
    simp
theorem s_wash (hR : HR kinds whos toWhoms topics weights answered n h) (hM : MH now n h) (hW : HW n h) (hs : s < 4096) (hs2 : now 2 = nI s) : wp_X7_wash whos toWhoms answered (nI n) (nI s) (fun a => wp_X8_wash now (fun a' => a = a')) := by
  have k7 : ∀ post : Int32 → Prop, wp_X7_wash whos toWhoms answered (nI n) (nI s) post = post (nI (sw1 (fun p => sw1 (fun j => mn n h s p (p + 1 + j)) (5 - p)) 6)) := by
    intro post
    refine lpG (σ := Int32 × Int32) (fun K x => wb_X7_wash_4 whos toWhoms answered (nI n) (nI s) post (fun u v => K (u, v)) x.1 x.2) (fun z x => wl_X7_wash_4 whos toWhoms answered (nI n) (nI s) post z x.1 x.2) (fun _ => rfl) (fun _ _ => rfl) 6 (fun k => (nI (sw1 (fun p => sw1 (fun j => mn n h s p (p + 1 + j)) (5 - p)) k), nI k)) _ (fun k K hk => ?_) (fun K => ?_)
    · have nk : ¬ 6 ≤ k := by omega
      show wb_X7_wash_4 whos toWhoms answered (nI n) (nI s) post (fun u v => K (u, v)) (nI (sw1 (fun p => sw1 (fun j => mn n h s p (p + 1 + j)) (5 - p)) k)) (nI k) = K (nI (sw1 (fun p => sw1 (fun j => mn n h s p (p + 1 + j)) (5 - p)) (k + 1)), nI (k + 1))
      simp (disch := omega) only [wb_X7_wash_4, z_6, q_le, nk, nI_1, e_wash1 hR hW hs _ hk]
      simp [sw1]
    · show wb_X7_wash_4 whos toWhoms answered (nI n) (nI s) post (fun u v => K (u, v)) _ (nI 6) = _
      simp (disch := omega) only [wb_X7_wash_4, z_6, q_le]
      simp
  have k8 : ∀ post : Int32 → Prop, wp_X8_wash now post = post (nI (sw1 (fun p => sw1 (fun j => mn n h s p (p + 1 + j)) (5 - p)) 6)) := by
    intro post
    refine lpG (σ := Int32 × Int32) (fun K x => wb_X8_wash_4 now post (fun u v => K (u, v)) x.1 x.2) (fun z x => wl_X8_wash_4 now post z x.1 x.2) (fun _ => rfl) (fun _ _ => rfl) 6 (fun k => (nI (sw1 (fun p => sw1 (fun j => mn n h s p (p + 1 + j)) (5 - p)) k), nI k)) _ (fun k K hk => ?_) (fun K => ?_)
    · have nk : ¬ 6 ≤ k := by omega
      show wb_X8_wash_4 now post (fun u v => K (u, v)) (nI (sw1 (fun p => sw1 (fun j => mn n h s p (p + 1 + j)) (5 - p)) k)) (nI k) = K (nI (sw1 (fun p => sw1 (fun j => mn n h s p (p + 1 + j)) (5 - p)) (k + 1)), nI (k + 1))
      simp (disch := omega) only [wb_X8_wash_4, z_6, q_le, nk, nI_1, e_mwash1 hM hW hs hs2 _ hk]
      simp [sw1]
    · show wb_X8_wash_4 now post (fun u v => K (u, v)) _ (nI 6) = _
      simp (disch := omega) only [wb_X8_wash_4, z_6, q_le]
      simp
  rw [k7, k8]
end HE2
