/-! rows and texts: both sides side by side -/
theorem n_m1 : ((-1 : Int32) = 0) = False := by decide
theorem n_m3 : ((-3 : Int32) = 0) = False := by decide
theorem n_1 : ((1 : Int32) = 0) = False := by decide
theorem z_32 : (32 : Int32) = nI 32 := rfl
def szI : Nat → Int32
  | 0 => -1
  | q + 1 => nI q
def SH (k w : Nat) (m : Nat → Nat) (sz cl sz' cl' : Nat → Int32) : Prop := ∀ r, r < k → m r ≤ w + 1 ∧ sz r = szI (m r) ∧ sz' r = szI (m r) ∧ ∀ i, i + 1 < m r → cl (w * r + i) = cl' (w * r + i)
def TL (often : Nat → Int32) (latest : Int32) (findings : Nat → Int32) (finding : Int32) : Prop := latest = finding ∧ ∀ f, 1 ≤ f → f ≤ 5 → often f = findings f
theorem TL.note {often findings : Nat → Int32} {latest finding : Int32} (h : TL often latest findings finding) {f : Nat} (h1 : 1 ≤ f) (h2 : f ≤ 5) : TL (upd often f (often f + 1)) (nI f) (upd findings f (findings f + 1)) (nI f) := by
  refine ⟨rfl, fun g g1 g2 => ?_⟩
  by_cases hg : g = f
  · subst hg; simp [upd, h.2 g g1 g2]
  · simp [upd, hg, h.2 g g1 g2]
theorem e6_note {often : Nat → Int32} {f : Nat} (hf : f < 6) (post : Int32 → (Nat → Int32) → Int32 → Prop) : wp_X6_note often (nI f) post = post (-3) (upd often f (often f + 1)) (nI f) := by
  simp (disch := omega) only [wp_X6_note, q_in, q_cl, true_and]
theorem e8_found {findings : Nat → Int32} {f : Nat} (hf : f < 6) (post : Int32 → Int32 → (Nat → Int32) → Prop) : wp_X8_found findings (nI f) post = post (-3) (nI f) (upd findings f (findings f + 1)) := by
  simp (disch := omega) only [wp_X8_found, q_in, q_cl, true_and]
theorem e5_hasN {k : Nat} {x : Int32} (hx : x < 0 ∨ nI k ≤ x) (post : Int32 → Prop) : wp_X5_hasNumber k x post = post 0 := by
  unfold wp_X5_hasNumber
  rcases hx with hx | hx
  · simp [hx]
  · by_cases h1 : x < 0 <;> simp [h1, hx]
theorem e5_hasY {k r : Nat} (hr : r < k) (hk : k < 2 ^ 31) (post : Int32 → Prop) : wp_X5_hasNumber k (nI r) post = post 1 := by
  unfold wp_X5_hasNumber
  have h1 : ¬ nI r < 0 := nI_pos (by omega)
  have h2 : ¬ nI k ≤ nI r := nI_ge hr hk
  simp [h1, h2]
theorem q_szm {m : Nat} (hm : m < 2 ^ 31) : (szI m = -1) = (m = 0) := by
  cases m with
  | zero => simp [szI]
  | succ q =>
    apply propext
    constructor
    · intro hh
      have h1 : nI q = -1 := hh
      have h2 := nI_pos (n := q) (by omega)
      rw [h1] at h2
      exact absurd (by decide) h2
    · intro hh; omega
theorem q_sz0 {m : Nat} (hm : m < 2 ^ 31) : (szI m < 0) = (m = 0) := by
  cases m with
  | zero => exact propext ⟨fun _ => rfl, fun _ => by decide⟩
  | succ q => exact propext ⟨fun hh => absurd hh (nI_pos (n := q) (by omega)), fun hh => by omega⟩
theorem q_szp {m : Nat} (hm : m < 2 ^ 31) : (0 ≤ szI m) = (m ≠ 0) := by
  cases m with
  | zero => exact propext ⟨fun hh => absurd hh (by decide), fun hh => absurd rfl hh⟩
  | succ q => exact propext ⟨fun _ => by omega, fun _ => nI_pos' (n := q) (by omega)⟩
theorem e5_there {k r m : Nat} {sz : Nat → Int32} (hr : r < k) (hk : k < 2 ^ 31) (hm : m < 2 ^ 31) (hs : sz r = szI m) (post : Int32 → Prop) : wp_X5_isThere k sz (nI r) post = post (if m = 0 then 0 else 1) := by
  simp (disch := omega) only [wp_X5_isThere, q_in, q_cl, hs, q_szm, true_and]
  by_cases c : m = 0 <;> simp [c]
theorem e7_bad {k : Nat} {sz often : Nat → Int32} {latest x : Int32} (hx : x < 0 ∨ nI k ≤ x) (post : Int32 → (Nat → Int32) → Int32 → Prop) : wp_X7_refusalOfShelf k sz often latest x post = post (-1) often latest := by
  unfold wp_X7_refusalOfShelf
  rw [e5_hasN hx]
  simp
theorem e7_miss {k r : Nat} {sz often : Nat → Int32} {latest : Int32} (hr : r < k) (hk : k < 2 ^ 31) (hs : sz r = szI 0) (post : Int32 → (Nat → Int32) → Int32 → Prop) : wp_X7_refusalOfShelf k sz often latest (nI r) post = post (-3) (upd often 1 (often 1 + 1)) (nI 1) := by
  simp (disch := omega) only [wp_X7_refusalOfShelf, e5_hasY, e5_there (m := 0) hr hk (by omega) hs, show (1 : Int32) = nI 1 from rfl, e6_note]
  simp [show nI 1 = 1 from rfl]
theorem e7_is {k r q : Nat} {sz often : Nat → Int32} {latest : Int32} (hr : r < k) (hk : k < 2 ^ 31) (hq : q < 2 ^ 30) (hs : sz r = szI (q + 1)) (post : Int32 → (Nat → Int32) → Int32 → Prop) : wp_X7_refusalOfShelf k sz often latest (nI r) post = post 0 often latest := by
  simp (disch := omega) only [wp_X7_refusalOfShelf, e5_hasY, e5_there (m := q + 1) hr hk (by omega) hs]
  simp
theorem e5_place {k r q j : Nat} {sz : Nat → Int32} (hr : r < k) (hk : k < 2 ^ 31) (hq : q < 2 ^ 30) (hs : sz r = szI (q + 1)) (hj : j < q) (post : Int32 → Prop) : wp_X5_hasPlace k sz (nI r) (nI j) post = post 1 := by
  have hs' : sz r = nI q := hs
  have c : ¬ q ≤ j := by omega
  simp (disch := omega) only [wp_X5_hasPlace, q_lt0, q_in, q_cl, hs', q_le, c]
  simp
theorem e5_placeN {k r q : Nat} {x : Int32} {sz : Nat → Int32} (hr : r < k) (hk : k < 2 ^ 31) (hs : sz r = szI (q + 1)) (hx : x < 0 ∨ nI q ≤ x) (post : Int32 → Prop) : wp_X5_hasPlace k sz (nI r) x post = post 0 := by
  have hs' : sz r = nI q := hs
  simp (disch := omega) only [wp_X5_hasPlace, q_in, q_cl, hs']
  rcases hx with hx | hx
  · simp [hx]
  · by_cases h1 : x < 0 <;> simp [h1, hx]
theorem e7_pbad {k : Nat} {sz often : Nat → Int32} {latest x i : Int32} (hx : x < 0 ∨ nI k ≤ x) (post : Int32 → (Nat → Int32) → Int32 → Prop) : wp_X7_refusalOfPlace k sz often latest x i post = post (-1) often latest := by
  unfold wp_X7_refusalOfPlace
  rw [e7_bad hx]
  simp [n_m1]
theorem e7_pmiss {k r : Nat} {sz often : Nat → Int32} {latest i : Int32} (hr : r < k) (hk : k < 2 ^ 31) (hs : sz r = szI 0) (post : Int32 → (Nat → Int32) → Int32 → Prop) : wp_X7_refusalOfPlace k sz often latest (nI r) i post = post (-3) (upd often 1 (often 1 + 1)) (nI 1) := by
  unfold wp_X7_refusalOfPlace
  rw [e7_miss hr hk hs]
  simp [n_m3]
theorem e7_pno {k r q : Nat} {sz often : Nat → Int32} {latest x : Int32} (hr : r < k) (hk : k < 2 ^ 31) (hq : q < 2 ^ 30) (hs : sz r = szI (q + 1)) (hx : x < 0 ∨ nI q ≤ x) (post : Int32 → (Nat → Int32) → Int32 → Prop) : wp_X7_refusalOfPlace k sz often latest (nI r) x post = post (-3) (upd often 2 (often 2 + 1)) (nI 2) := by
  unfold wp_X7_refusalOfPlace
  rw [e7_is hr hk hq hs, e5_placeN hr hk hs hx, z_2, e6_note (by omega)]
  simp
theorem e7_pis {k r q j : Nat} {sz often : Nat → Int32} {latest : Int32} (hr : r < k) (hk : k < 2 ^ 31) (hq : q < 2 ^ 30) (hs : sz r = szI (q + 1)) (hj : j < q) (post : Int32 → (Nat → Int32) → Int32 → Prop) : wp_X7_refusalOfPlace k sz often latest (nI r) (nI j) post = post 0 often latest := by
  unfold wp_X7_refusalOfPlace
  rw [e7_is hr hk hq hs, e5_place hr hk hq hs hj]
  simp [n_1]
theorem y_5 : (5 : Int64) = (nI 5).toInt64 := by decide
theorem y_3 : (3 : Int64) = (nI 3).toInt64 := by decide
theorem q_lt_of_le {n : Nat} {x : Int32} (hn : n < 2 ^ 30) (h : nI (n + 1) ≤ x) : nI n < x := by
  rw [Int32.lt_iff_toInt_lt]
  rw [Int32.le_iff_toInt_le, nI_toInt (by omega)] at h
  rw [nI_toInt (by omega)]
  omega
theorem e8_rowN {x : Int32} (hx : x < 0 ∨ nI 6 ≤ x) (post : Int32 → Prop) : wp_X8_isRow x post = post 0 := by
  unfold wp_X8_isRow
  rw [y_5]
  rcases hx with hx | hx
  · rw [e_inL _ hx]
  · rw [e_inH (q_lt_of_le (by omega) hx)]
theorem e8_rowY {r : Nat} (hr : r < 6) (post : Int32 → Prop) : wp_X8_isRow (nI r) post = post 1 := by
  unfold wp_X8_isRow
  rw [y_5, e_inY (by omega) (by omega)]
theorem e8_textN {x : Int32} (hx : x < 0 ∨ nI 4 ≤ x) (post : Int32 → Prop) : wp_X8_isText x post = post 0 := by
  unfold wp_X8_isText
  rw [y_3]
  rcases hx with hx | hx
  · rw [e_inL _ hx]
  · rw [e_inH (q_lt_of_le (by omega) hx)]
theorem e8_textY {r : Nat} (hr : r < 4) (post : Int32 → Prop) : wp_X8_isText (nI r) post = post 1 := by
  unfold wp_X8_isText
  rw [y_3, e_inY (by omega) (by omega)]
/-- a place below a size, on the reference's side -/
theorem e8_plY {q j : Nat} (hj : j < q) (hq : q < 2 ^ 30) (post : Int32 → Prop) : wp_X8_in (nI j).toInt64 (0 : Int64) (nI q - 1).toInt64 post = post 1 := by
  rw [show nI q - 1 = nI (q - 1) from pk_sub (a := q) (b := 1) (by omega), e_inY (by omega) (by omega)]
theorem e8_plN {q : Nat} {x : Int32} (hx : x < 0 ∨ nI q ≤ x) (hq : q < 2 ^ 30) (post : Int32 → Prop) : wp_X8_in x.toInt64 (0 : Int64) (nI q - 1).toInt64 post = post 0 := by
  rcases hx with hx | hx
  · rw [e_inL _ hx]
  · by_cases h1 : x < 0
    · rw [e_inL _ h1]
    · rw [e_inH]
      cases q with
      | zero =>
        rw [Int32.lt_iff_toInt_lt]
        have h2 : ¬ x.toInt < 0 := fun hh => h1 (by rw [Int32.lt_iff_toInt_lt]; simpa using hh)
        show (-1 : Int) < x.toInt
        omega
      | succ q => rw [nI_pred]; exact q_lt_of_le (by omega) hx
theorem e_fill2 {nc a b : Nat} (hab : a ≤ b) (hb : b ≤ nc) (hn : nc < 2 ^ 31) (d : Nat → Int32) (v : Int32) (post : (Nat → Int32) → Prop) : wp_J7_fill_fda19 nc d (nI a) (nI b) v post = post (fun j => if a ≤ j ∧ j < b then v else d j) := by
  have hl := lpG (σ := (Nat → Int32) × Int32) (fun K x => wb_J7_fill_fda19_10 nc (nI b) v post (fun u w => K (u, w)) x.1 x.2) (fun z x => wl_J7_fill_fda19_10 nc (nI b) v post z x.1 x.2) (fun _ => rfl) (fun _ _ => rfl) (b - a) (fun k => ((fun j => if a ≤ j ∧ j < a + k then v else d j), nI (a + k))) (post (fun j => if a ≤ j ∧ j < b then v else d j)) (fun k K hk => ?_) (fun K => ?_)
  · have e0 : (fun j => if a ≤ j ∧ j < a then v else d j) = d := by
      funext j; rw [if_neg (by omega)]
    simp only [Nat.add_zero, e0] at hl
    unfold wp_J7_fill_fda19
    simp (disch := omega) only [wp_J7_rangeCheck_23922, q_le, z_0, hab, hb, hl]
    simp
  · have c : ¬ b ≤ a + k := by omega
    show wb_J7_fill_fda19_10 nc (nI b) v post (fun u w => K (u, w)) (fun j => if a ≤ j ∧ j < a + k then v else d j) (nI (a + k)) = K ((fun j => if a ≤ j ∧ j < a + (k + 1) then v else d j), nI (a + (k + 1)))
    simp (disch := omega) only [wb_J7_fill_fda19_10, q_le, q_in, q_cl, nI_1, c]
    have e1 : upd (fun j => if a ≤ j ∧ j < a + k then v else d j) (a + k) v = fun j => if a ≤ j ∧ j < a + (k + 1) then v else d j := by
      funext j
      show (if j = a + k then v else (if a ≤ j ∧ j < a + k then v else d j)) = (if a ≤ j ∧ j < a + (k + 1) then v else d j)
      by_cases h1 : j = a + k
      · rw [if_pos h1, if_pos (by omega)]
      · rw [if_neg h1]
        by_cases h2 : a ≤ j ∧ j < a + k
        · rw [if_pos h2, if_pos (by omega)]
        · rw [if_neg h2, if_neg (by omega)]
    rw [e1]
    simp [Nat.add_assoc]
  · show wb_J7_fill_fda19_10 nc (nI b) v post (fun u w => K (u, w)) (fun j => if a ≤ j ∧ j < a + (b - a) then v else d j) (nI (a + (b - a))) = _
    rw [show a + (b - a) = b by omega]
    simp (disch := omega) only [wb_J7_fill_fda19_10, q_le]
    simp
theorem e5_make {k nc w r n : Nat} {sz cl : Nat → Int32} {v : Int32} (hr : r < k) (hk : k < 1000) (hw : w < 1000) (hn : n ≤ w) (hc : w * r + w ≤ nc) (hnc : nc < 100000) (post : (Nat → Int32) → (Nat → Int32) → Prop) : wp_X5_makeAnew k nc (nI w) sz cl (nI r) (nI n) v post = post (upd sz r (nI n)) (fun j => if w * r ≤ j ∧ j < w * r + n then v else cl j) := by
  have e1 : r * w = w * r := Nat.mul_comm r w
  simp (disch := omega) only [wp_X5_makeAnew, q_in, q_cl, pk_mul, nI_add, e1, e_fill2, true_and]
theorem e5_cell {nc w r i : Nat} {cl : Nat → Int32} (hc : w * r + i < nc) (hnc : nc < 100000) (post : Int32 → Prop) : wp_X5_cell nc (nI w) cl (nI r) (nI i) post = post (cl (w * r + i)) := by
  have e1 : r * w = w * r := Nat.mul_comm r w
  simp (disch := omega) only [wp_X5_cell, pk_mul, nI_add, e1, q_in, q_cl, true_and]
theorem e5_setCell {nc w r i : Nat} {cl : Nat → Int32} {v : Int32} (hc : w * r + i < nc) (hnc : nc < 100000) (post : (Nat → Int32) → Prop) : wp_X5_setCell nc (nI w) cl (nI r) (nI i) v post = post (upd cl (w * r + i) v) := by
  have e1 : r * w = w * r := Nat.mul_comm r w
  simp (disch := omega) only [wp_X5_setCell, pk_mul, nI_add, e1, q_in, q_cl, true_and]
theorem SH.make {k w : Nat} {m : Nat → Nat} {sz cl sz' cl' : Nat → Int32} (h : SH k w m sz cl sz' cl') {r n : Nat} (hr : r < k) (hn : n ≤ w) {v : Int32} {c1 c2 : Nat → Int32}
    (h1 : ∀ i, i < n → c1 (w * r + i) = v) (h2 : ∀ i, i < n → c2 (w * r + i) = v) (o1 : ∀ j, ¬ (w * r ≤ j ∧ j < w * r + w) → c1 j = cl j) (o2 : ∀ j, ¬ (w * r ≤ j ∧ j < w * r + w) → c2 j = cl' j) :
    SH k w (fun x => if x = r then n + 1 else m x) (upd sz r (nI n)) c1 (upd sz' r (nI n)) c2 := by
  intro x hx
  by_cases hxr : x = r
  · subst hxr
    refine ⟨by simp; omega, by simp [upd, szI], by simp [upd, szI], fun i hi => ?_⟩
    have hi : i < n := by simpa using hi
    rw [h1 i hi, h2 i hi]
  · obtain ⟨a, b, c, d⟩ := h x hx
    refine ⟨by simpa [hxr] using a, by simpa [upd, hxr] using b, by simpa [upd, hxr] using c, fun i hi => ?_⟩
    have hi : i + 1 < m x := by simpa [hxr] using hi
    have hne : ¬ (w * r ≤ w * x + i ∧ w * x + i < w * r + w) := by
      rintro ⟨p1, p2⟩
      rcases Nat.lt_or_gt_of_ne hxr with q | q
      · have : w * x + w ≤ w * r := by rw [← Nat.mul_succ]; exact Nat.mul_le_mul_left w q
        omega
      · have : w * r + w ≤ w * x := by rw [← Nat.mul_succ]; exact Nat.mul_le_mul_left w q
        omega
    rw [o1 _ hne, o2 _ hne]
    exact d i hi
theorem SH.lay {k w : Nat} {m : Nat → Nat} {sz cl sz' cl' : Nat → Int32} (h : SH k w m sz cl sz' cl') (r i : Nat) (v : Int32) : SH k w m sz (upd cl (w * r + i) v) sz' (upd cl' (w * r + i) v) := by
  intro x hx
  obtain ⟨a, b, c, d⟩ := h x hx
  refine ⟨a, b, c, fun j hj => ?_⟩
  unfold upd
  by_cases he : w * x + j = w * r + i
  · rw [if_pos he, if_pos he]
  · rw [if_neg he, if_neg he]; exact d j hj
theorem SH.drop {k w : Nat} {m : Nat → Nat} {sz cl sz' cl' : Nat → Int32} (h : SH k w m sz cl sz' cl') (r : Nat) : SH k w (fun x => if x = r then 0 else m x) (upd sz r (-1)) cl (upd sz' r (-1)) cl' := by
  intro x hx
  by_cases hxr : x = r
  · subst hxr
    exact ⟨by simp, by simp [upd, szI], by simp [upd, szI], fun i hi => by simp at hi⟩
  · obtain ⟨a, b, c, d⟩ := h x hx
    exact ⟨by simpa [hxr] using a, by simpa [upd, hxr] using b, by simpa [upd, hxr] using c, fun i hi => d i (by simpa [hxr] using hi)⟩
