/-! Heap: what its reading methods answer -/
theorem e_isSaid {s i : Nat} (hs : s < 2 ^ 31) (hi : i < 31) (post : Int32 → Prop) : wp_X1_isSaid (nI s) (nI i) post = post (if s.testBit i = true then 1 else 0) := by
  unfold wp_X1_isSaid
  rw [e_has hs hi]
section HE
variable {kinds whos toWhoms topics weights answered : Nat → Int32} {n : Nat} {h : Nat → Nat → Nat}
theorem e_between (hR : HR kinds whos toWhoms topics weights answered n h) (hW : HW n h) {p q : Nat} (hp : p < 6) (hq : q < 6) (post : Int32 → Prop) : wp_X1_between whos toWhoms (nI n) (nI p) (nI q) post = post (nI (bm n (btw h p q))) := by
  have hn := hW.1
  refine lpG (σ := Int32 × Int32) (fun K x => wb_X1_between_5 whos toWhoms (nI n) (nI p) (nI q) post (fun u v => K (u, v)) x.1 x.2) (fun z x => wl_X1_between_5 whos toWhoms (nI n) (nI p) (nI q) post z x.1 x.2) (fun _ => rfl) (fun _ _ => rfl) n (fun k => (nI (bm k (btw h p q)), nI k)) _ (fun k K hk => ?_) (fun K => ?_)
  · have hb := hW.2 k hk
    obtain ⟨r0, r1, r2, r3, r4, r5⟩ := hR k hk
    have nk : ¬ n ≤ k := by omega
    show wb_X1_between_5 whos toWhoms (nI n) (nI p) (nI q) post (fun u v => K (u, v)) (nI (bm k (btw h p q))) (nI k) = K (nI (bm (k + 1) (btw h p q)), nI (k + 1))
    simp (disch := omega) only [wb_X1_between_5, wb_X1_between_36, wb_X1_between_58, q_le, q_cl, q_in, r1, r2, q_eq, e_bit, q_or, nI_1, nk]
    by_cases c1 : h 1 k = p <;> by_cases c2 : h 2 k = q <;> by_cases c3 : h 1 k = q <;> by_cases c4 : h 2 k = p <;> simp [bm, btw, c1, c2, c3, c4, ic1, ic2] <;> (by_cases z : q = p <;> simp_all)
  · show wb_X1_between_5 whos toWhoms (nI n) (nI p) (nI q) post (fun u v => K (u, v)) (nI (bm n (btw h p q))) (nI n) = _
    simp (disch := omega) only [wb_X1_between_5, q_le]
    simp
theorem e_others (hR : HR kinds whos toWhoms topics weights answered n h) (hW : HW n h) {i : Nat} (hi : i < n) (post : Int32 → Prop) : wp_X1_others whos toWhoms (nI n) (nI i) post = post (nI (bm n (oth h i))) := by
  have hn := hW.1
  have hb := hW.2 i hi
  obtain ⟨r0, r1, r2, r3, r4, r5⟩ := hR i hi
  simp (disch := omega) only [wp_X1_others, q_cl, q_in, r1, r2, e_between hR hW, e_bit, q_nd, nd_bm]
  simp only [true_and]
  rfl
theorem prc_lt (hW : HW n h) {i t : Nat} (hi : i < n) (ht : t ≤ 12) : prc h i t ≤ 30 := by
  have hb := hW.2 i hi
  unfold prc
  split <;> omega
theorem e_priceAtHeat (hR : HR kinds whos toWhoms topics weights answered n h) (hW : HW n h) {i t : Nat} (hi : i < n) (ht : t ≤ 12) (post : Int32 → Prop) : wp_X1_priceAtHeat kinds topics weights (nI i) (nI t) post = post (nI (prc h i t)) := by
  have hn := hW.1
  have hb := hW.2 i hi
  obtain ⟨r0, r1, r2, r3, r4, r5⟩ := hR i hi
  simp (disch := omega) only [wp_X1_priceAtHeat, wb_X1_priceAtHeat_79, q_cl, q_in, r0, r3, r4, z_1, z_2, z_3, z_4, z_5, q_eq, nI_add, pk_mul, pk_div]
  have hk : h 0 i = 0 ∨ h 0 i = 1 ∨ h 0 i = 2 ∨ h 0 i = 3 ∨ h 0 i = 4 ∨ h 0 i = 5 := by omega
  rcases hk with e | e | e | e | e | e <;> simp [prc, e]
theorem heat_le (s i : Nat) (hW : HW n h) : heatS n h s i ≤ 12 := Nat.le_trans (cn_le n _) hW.1
theorem e_priceAmong (hR : HR kinds whos toWhoms topics weights answered n h) (hW : HW n h) {i s : Nat} (hi : i < n) (post : Int32 → Prop) : wp_X1_priceAmong kinds whos toWhoms topics weights (nI n) (nI i) (nI s) post = post (nI (priceS n h s i)) := by
  have hn := hW.1
  have hc : cn n (fun e => oth h i e && s.testBit e) ≤ 12 := heat_le s i hW
  have hb : bm n (fun e => oth h i e && s.testBit e) < 4096 := bm_le n _ (N := 12) hn
  simp (disch := omega) only [wp_X1_priceAmong, e_others hR hW, q_and, and_bm, e_bc, pc_bm, e_priceAtHeat hR hW]
  rfl
theorem e_priceNow (hR : HR kinds whos toWhoms topics weights answered n h) (hW : HW n h) {i s : Nat} (hi : i < n) (post : Int32 → Prop) : wp_X1_priceNow kinds whos toWhoms topics weights (nI n) (nI s) (nI i) post = post (nI (priceS n h s i)) := by
  unfold wp_X1_priceNow
  rw [e_priceAmong hR hW hi]
theorem e_heatNow (hR : HR kinds whos toWhoms topics weights answered n h) (hW : HW n h) {i s : Nat} (hi : i < n) (post : Int32 → Prop) : wp_X1_heatNow whos toWhoms (nI n) (nI s) (nI i) post = post (nI (heatS n h s i)) := by
  have hn := hW.1
  have hb : bm n (fun e => oth h i e && s.testBit e) < 4096 := bm_le n _ (N := 12) hn
  simp (disch := omega) only [wp_X1_heatNow, e_others hR hW, q_and, and_bm, e_bc, pc_bm]
  rfl
/-- whether a saying of that kind is of the kind k (for k above 0) -/
def isOfB (own k : Nat) : Bool := own == k || (k == 1 && own == 5) || (k == 3 && own == 4)
theorem e_isOf (hR : HR kinds whos toWhoms topics weights answered n h) (hW : HW n h) {i k : Nat} (hi : i < n) (hk : k < 6) (post : Int32 → Prop) : wp_X1_isOf kinds (nI i) (nI k) post = post (if isOfB (h 0 i) k = true then 1 else 0) := by
  have hn := hW.1
  have hb := hW.2 i hi
  obtain ⟨r0, r1, r2, r3, r4, r5⟩ := hR i hi
  simp (disch := omega) only [wp_X1_isOf, wb_X1_isOf_22, q_cl, q_in, r0, show (1 : Int32) = nI 1 from rfl, z_3, z_4, z_5, q_eq]
  by_cases c1 : h 0 i = k <;> by_cases c2 : k = 1 <;> by_cases c3 : k = 3 <;> by_cases c4 : h 0 i = 5 <;> by_cases c5 : h 0 i = 4 <;> simp [isOfB, c1, c2, c3, c4, c5, ic1, ic2] <;> first | rfl | omega | (simp_all; done)
theorem e_answerers (hR : HR kinds whos toWhoms topics weights answered n h) (hW : HW n h) {i : Nat} (hi : i < n) (post : Int32 → Prop) : wp_X1_answerers answered (nI n) (nI i) post = post (nI (bm n (ansB h i))) := by
  have hn := hW.1
  have hz : bm (i + 1) (ansB h i) = 0 := bm_zero fun e he => by
    have := (hW.2 e (by omega)).2.2.2.2.2.2.2
    simp [ansB]; omega
  have hl := lpG (σ := Int32 × Int32) (fun K x => wb_X1_answerers_6 answered (nI n) (nI i) post (fun u v => K (u, v)) x.1 x.2) (fun z x => wl_X1_answerers_6 answered (nI n) (nI i) post z x.1 x.2) (fun _ => rfl) (fun _ _ => rfl) (n - (i + 1)) (fun k => (nI (bm (i + 1 + k) (ansB h i)), nI (i + 1 + k))) (post (nI (bm n (ansB h i)))) (fun k K hk => ?_) (fun K => ?_)
  · simp only [Nat.add_zero, hz] at hl
    unfold wp_X1_answerers
    rw [nI_1]
    exact hl
  · have hk2 : i + 1 + k < n := by omega
    have hb := (hW.2 _ hk2).2.2.2.2.2.2.2
    obtain ⟨r0, r1, r2, r3, r4, r5⟩ := hR _ hk2
    have nk : ¬ n ≤ i + 1 + k := by omega
    show wb_X1_answerers_6 answered (nI n) (nI i) post (fun u v => K (u, v)) (nI (bm (i + 1 + k) (ansB h i))) (nI (i + 1 + k)) = K (nI (bm (i + 1 + k + 1) (ansB h i)), nI (i + 1 + k + 1))
    simp (disch := omega) only [wb_X1_answerers_6, q_le, q_cl, q_in, r5, e_bit, q_or, nI_1, nk]
    cases ha : h 5 (i + 1 + k) with
    | zero =>
      have : ¬ ansI 0 = nI i := by
        intro hh
        have h1 : (-9 : Int32) = nI i := hh
        have h2 := nI_pos (n := i) (by omega)
        rw [← h1] at h2
        exact h2 (by decide)
      simp [this, bm, ansB, ha]
    | succ j =>
      have e1 : (ansI (j + 1) = nI i) = (j = i) := q_eq (by omega) (by omega)
      simp only [e1]
      by_cases c : j = i <;> simp [bm, ansB, ha, c]
  · have hk2 : i + 1 + (n - (i + 1)) = n := by omega
    show wb_X1_answerers_6 answered (nI n) (nI i) post (fun u v => K (u, v)) (nI (bm (i + 1 + (n - (i + 1))) (ansB h i))) (nI (i + 1 + (n - (i + 1)))) = _
    rw [hk2]
    simp (disch := omega) only [wb_X1_answerers_6, q_le]
    simp
theorem e_mayGo (hR : HR kinds whos toWhoms topics weights answered n h) (hW : HW n h) {i s : Nat} (hi : i < n) (hs : s < 4096) (post : Int32 → Prop) : wp_X1_mayGo kinds answered (nI n) (nI i) (nI s) post = post (if mayS n h s i = true then 1 else 0) := by
  have hn := hW.1
  have hb := hW.2 i hi
  obtain ⟨r0, r1, r2, r3, r4, r5⟩ := hR i hi
  have hlt : bm n (fun e => ansB h i e && s.testBit e) < 4096 := bm_le n _ (N := 12) hn
  simp (disch := omega) only [wp_X1_mayGo, wp_X1_holders, e_has, q_if0, q_in, q_cl, r0, e_answerers hR hW, z_4, q_eq, q_and, and_bm]
  have h0 : (nI 0 &&& nI s = 0) = True := eq_true (by rw [q_and, Nat.zero_and]; rfl)
  have h1 : (nI (bm n (fun e => ansB h i e && s.testBit e)) = 0) = (nAns n h s i = 0) := by
    rw [z_0, q_eq (by omega) (by omega)]
    apply propext
    rw [bm_eq0]
    unfold nAns
    rw [cn_eq0]
    constructor <;> intro hh e he <;> have := hh e he <;> simpa [Bool.and_comm] using this
  have h0' : ((0 : Int32) &&& nI s = 0) = True := h0
  simp only [h0', h1]
  cases c1 : s.testBit i <;> by_cases c2 : h 0 i = 4 <;> by_cases c3 : nAns n h s i = 0 <;> simp [mayS, c1, c2, c3]
theorem e_freeAmong (hR : HR kinds whos toWhoms topics weights answered n h) (hW : HW n h) {s : Nat} (hs : s < 4096) (post : Int32 → Prop) : wp_X1_freeAmong kinds answered (nI n) (nI s) post = post (nI (frees n h s)) := by
  have hn := hW.1
  refine lpG (σ := Int32 × Int32) (fun K x => wb_X1_freeAmong_4 kinds answered (nI n) (nI s) post (fun u v => K (u, v)) x.1 x.2) (fun z x => wl_X1_freeAmong_4 kinds answered (nI n) (nI s) post z x.1 x.2) (fun _ => rfl) (fun _ _ => rfl) n (fun k => (nI (bm k (mayS n h s)), nI k)) _ (fun k K hk => ?_) (fun K => ?_)
  · have nk : ¬ n ≤ k := by omega
    show wb_X1_freeAmong_4 kinds answered (nI n) (nI s) post (fun u v => K (u, v)) (nI (bm k (mayS n h s))) (nI k) = K (nI (bm (k + 1) (mayS n h s)), nI (k + 1))
    simp (disch := omega) only [wb_X1_freeAmong_4, q_le, e_mayGo hR hW, q_if0, e_bit, q_or, nI_1, nk]
    cases c : mayS n h s k <;> simp [bm, c]
  · show wb_X1_freeAmong_4 kinds answered (nI n) (nI s) post (fun u v => K (u, v)) (nI (bm n (mayS n h s))) (nI n) = _
    simp (disch := omega) only [wb_X1_freeAmong_4, q_le]
    simp [frees]
end HE
