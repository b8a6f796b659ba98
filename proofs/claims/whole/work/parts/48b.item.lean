/-! one item of a TEXT -/
section IT
variable {m : Nat → Nat} {ts tc tS tw : Nat → Int32} {t q : Nat} {kinds whos toWhoms topics weights answered rd : Nat → Int32} {n s : Nat} {h : Nat → Nat → Nat}
theorem e_kindC (hS : SH 4 80 m ts tc tS tw) (ht : t < 4) (hm : m t = q + 1) {p : Nat} (hp : p < 1000) (post : Int32 → (Nat → Int32) → (Nat → Int32) → (Nat → Int32) → (Nat → Int32) → (Nat → Int32) → (Nat → Int32) → Int32 → Int32 → Prop) (sz sb : Int32) : ∀ j, j ≤ 6 → (∃ zn, wl_X3_readItem_9 4 320 (nI 80) ts tc (nI t) (nI p) post zn kinds whos toWhoms topics weights answered sz sb (nI j - 1)) = wb_X3_readItem_36 4 320 (nI 80) ts tc (nI t) (nI p) post kinds whos toWhoms topics weights answered sz sb (kdF (xC tw t q p) j) := by
  intro j
  induction j with
  | zero =>
    intro _
    refine lp_en (σ := (Nat → Int32) × (Nat → Int32) × (Nat → Int32) × (Nat → Int32) × (Nat → Int32) × (Nat → Int32) × Int32 × Int32 × Int32) (fun K x => wb_X3_readItem_9 4 320 (nI 80) ts tc (nI t) (nI p) post (fun a b c d e f g i j => K (a, b, c, d, e, f, g, i, j)) x.1 x.2.1 x.2.2.1 x.2.2.2.1 x.2.2.2.2.1 x.2.2.2.2.2.1 x.2.2.2.2.2.2.1 x.2.2.2.2.2.2.2.1 x.2.2.2.2.2.2.2.2) (fun z x => wl_X3_readItem_9 4 320 (nI 80) ts tc (nI t) (nI p) post z x.1 x.2.1 x.2.2.1 x.2.2.2.1 x.2.2.2.2.1 x.2.2.2.2.2.1 x.2.2.2.2.2.2.1 x.2.2.2.2.2.2.2.1 x.2.2.2.2.2.2.2.2) (fun _ => rfl) (fun _ _ => rfl) (x := (kinds, whos, toWhoms, topics, weights, answered, sz, sb, nI 0 - 1)) (fun K => ?_)
    show wb_X3_readItem_9 4 320 (nI 80) ts tc (nI t) (nI p) post (fun a b c d e f g i j => K (a, b, c, d, e, f, g, i, j)) kinds whos toWhoms topics weights answered sz sb (nI 0 - 1) = _
    have e : nI 0 - 1 = (-1 : Int32) := by decide
    simp only [wb_X3_readItem_9, e, nneg0, kdF]
    simp
  | succ j ih =>
    intro hj
    have ih := ih (by omega)
    have e0 : nI (j + 1) - 1 = nI j := nI_pred j
    by_cases e : lt6 j = xC tw t q p
    · rw [show kdF (xC tw t q p) (j + 1) = nI j from if_pos e]
      refine lp_en (σ := (Nat → Int32) × (Nat → Int32) × (Nat → Int32) × (Nat → Int32) × (Nat → Int32) × (Nat → Int32) × Int32 × Int32 × Int32) (fun K x => wb_X3_readItem_9 4 320 (nI 80) ts tc (nI t) (nI p) post (fun a b c d e f g i j => K (a, b, c, d, e, f, g, i, j)) x.1 x.2.1 x.2.2.1 x.2.2.2.1 x.2.2.2.2.1 x.2.2.2.2.2.1 x.2.2.2.2.2.2.1 x.2.2.2.2.2.2.2.1 x.2.2.2.2.2.2.2.2) (fun z x => wl_X3_readItem_9 4 320 (nI 80) ts tc (nI t) (nI p) post z x.1 x.2.1 x.2.2.1 x.2.2.2.1 x.2.2.2.2.1 x.2.2.2.2.2.1 x.2.2.2.2.2.2.1 x.2.2.2.2.2.2.2.1 x.2.2.2.2.2.2.2.2) (fun _ => rfl) (fun _ _ => rfl) (x := (kinds, whos, toWhoms, topics, weights, answered, sz, sb, nI (j + 1) - 1)) (fun K => ?_)
      show wb_X3_readItem_9 4 320 (nI 80) ts tc (nI t) (nI p) post (fun a b c d e f g i j => K (a, b, c, d, e, f, g, i, j)) kinds whos toWhoms topics weights answered sz sb (nI (j + 1) - 1) = _
      simp (disch := omega) only [wb_X3_readItem_9, e0, q_lt0, q_in, q_cl, e_sign hS ht hm hp, e]
      simp
    · rw [show kdF (xC tw t q p) (j + 1) = kdF (xC tw t q p) j from if_neg e, ← ih]
      have e1 : nI j + (-1) = nI j - 1 := by rw [Int32.sub_eq_add_neg]
      refine lp_st (σ := (Nat → Int32) × (Nat → Int32) × (Nat → Int32) × (Nat → Int32) × (Nat → Int32) × (Nat → Int32) × Int32 × Int32 × Int32) (fun K x => wb_X3_readItem_9 4 320 (nI 80) ts tc (nI t) (nI p) post (fun a b c d e f g i j => K (a, b, c, d, e, f, g, i, j)) x.1 x.2.1 x.2.2.1 x.2.2.2.1 x.2.2.2.2.1 x.2.2.2.2.2.1 x.2.2.2.2.2.2.1 x.2.2.2.2.2.2.2.1 x.2.2.2.2.2.2.2.2) (fun z x => wl_X3_readItem_9 4 320 (nI 80) ts tc (nI t) (nI p) post z x.1 x.2.1 x.2.2.1 x.2.2.2.1 x.2.2.2.2.1 x.2.2.2.2.2.1 x.2.2.2.2.2.2.1 x.2.2.2.2.2.2.2.1 x.2.2.2.2.2.2.2.2) (fun _ => rfl) (fun _ _ => rfl) (x := (kinds, whos, toWhoms, topics, weights, answered, sz, sb, nI (j + 1) - 1)) (y := (kinds, whos, toWhoms, topics, weights, answered, sz, sb, nI j - 1)) (fun K => ?_)
      show wb_X3_readItem_9 4 320 (nI 80) ts tc (nI t) (nI p) post (fun a b c d e f g i j => K (a, b, c, d, e, f, g, i, j)) kinds whos toWhoms topics weights answered sz sb (nI (j + 1) - 1) = K (kinds, whos, toWhoms, topics, weights, answered, sz, sb, nI j - 1)
      simp (disch := omega) only [wb_X3_readItem_9, e0, q_lt0, q_in, q_cl, e_sign hS ht hm hp, e, e1]
      simp
/-- an item: either both refuse it at the same place, or both take it -/
theorem e_item (hS : SH 4 80 m ts tc tS tw) (ht : t < 4) (hm : m t = q + 1) (hL : RdL kinds whos toWhoms topics weights answered rd n h) {p : Nat} (hp : p < q) (hq : q ≤ 80) :
    (∃ k rd', k ≤ 5 ∧ (∀ post, wp_X3_readItem kinds whos toWhoms topics weights answered (nI n) (nI s) 4 320 (nI 80) ts tc (nI t) (nI p) post = post (nI (p + k)) kinds whos toWhoms topics weights answered (nI n) (nI s)) ∧ (∀ post, wp_X8_takesSaying tS tw rd (nI p) (nI t) post = post 0 rd' (nI (p + k)))) ∨
    (n < 12 ∧ p + 6 ≤ q ∧ ∃ v : Nat → Nat, (v 0 < 6 ∧ v 1 < 6 ∧ v 2 < 6 ∧ v 1 ≠ v 2 ∧ v 3 < 6 ∧ 1 ≤ v 4 ∧ v 4 ≤ 9 ∧ v 5 ≤ n) ∧ (∀ post, wp_X3_readItem kinds whos toWhoms topics weights answered (nI n) (nI s) 4 320 (nI 80) ts tc (nI t) (nI p) post = post (-9) (upd kinds n (nI (v 0))) (upd whos n (nI (v 1))) (upd toWhoms n (nI (v 2))) (upd topics n (nI (v 3))) (upd weights n (nI (v 4))) (upd answered n (ansI (v 5))) (nI (n + 1)) (nI (s ||| 2 ^ n))) ∧ (∀ post, wp_X8_takesSaying tS tw rd (nI p) (nI t) post = post 1 (rdN rd n v) (nI (p + 6)))) := by
  obtain ⟨hR, hM, hW, h1⟩ := hL
  have hn := hW.1
  have e0 : xC tw t q p = xM tw t q p := (if_pos hp).trans (if_pos hp).symm
  have r0 : rd 0 = nI n := hM.1
  have C0 : ∀ post : Int32 → (Nat → Int32) → (Nat → Int32) → (Nat → Int32) → (Nat → Int32) → (Nat → Int32) → (Nat → Int32) → Int32 → Int32 → Prop, wp_X3_readItem kinds whos toWhoms topics weights answered (nI n) (nI s) 4 320 (nI 80) ts tc (nI t) (nI p) post = wb_X3_readItem_36 4 320 (nI 80) ts tc (nI t) (nI p) post kinds whos toWhoms topics weights answered (nI n) (nI s) (kdF (xM tw t q p) 6) := fun post => by
    rw [← e0]
    exact e_kindC hS ht hm (by omega) post (nI n) (nI s) 6 (Nat.le_refl 6)
  have B0 : ∀ post, wp_X8_byteAt tS tw (nI p) (nI t) post = post (xM tw t q p) := fun post => e_byte hS ht hm (by omega) post
  rcases kdF_is (xM tw t q p) 6 with hk | ⟨k, hk6, hk⟩
  · refine Or.inl ⟨0, rd, by omega, fun post => ?_, fun post => ?_⟩
    · rw [C0, hk]
      simp only [wb_X3_readItem_36, nneg0, Nat.add_zero]
      simp
    · simp only [wp_X8_takesSaying, B0, e_kindOf, hk, nneg0, Nat.add_zero]
      simp
  by_cases hn12 : n = 12
  · refine Or.inl ⟨0, rd, by omega, fun post => ?_, fun post => ?_⟩
    · rw [C0, hk]
      have c : ¬ n < 12 := by omega
      simp (disch := omega) only [wb_X3_readItem_36, q_lt0, wp_X1_isFull, lt12n, c, n_1, Nat.add_zero]
      simp
    · simp (disch := omega) only [wp_X8_takesSaying, B0, e_kindOf, hk, q_lt0, r0, eq12n, hn12, Nat.add_zero]
      simp
  have n12 : n < 12 := by omega
  have F : ∀ i post, i ≤ 5 → wp_X3_figureAt 4 320 (nI 80) ts tc (nI t) (nI (p + i)) post = post (fig (xC tw t q (p + i))) := fun i post hi => e_fig hS ht hm (by omega) post
  have B : ∀ i post, i ≤ 5 → wp_X8_byteAt tS tw (nI (p + i)) (nI t) post = post (xM tw t q (p + i)) := fun i post hi => e_byte hS ht hm (by omega) post
  have F1 := fun post => F 1 post (by omega)
  have F2 := fun post => F 2 post (by omega)
  have F3 := fun post => F 3 post (by omega)
  have F4 := fun post => F 4 post (by omega)
  have B2 := fun post => B 2 post (by omega)
  have B5 := fun post => B 5 post (by omega)
  -- the person who says it
  rcases (show (∃ d, d < 6 ∧ fig (xC tw t q (p + 1)) = nI d ∧ xM tw t q (p + 1) - 48 = nI d) ∨ ((fig (xC tw t q (p + 1)) = -1 ∨ ∃ d, 6 ≤ d ∧ d < 10 ∧ fig (xC tw t q (p + 1)) = nI d) ∧ ∀ d, 0 ≤ d → d ≤ 5 → ¬ xM tw t q (p + 1) - 48 = nI d) by
    rcases sg tw t q (p + 1) with ⟨j, a, b, c, -⟩ | ⟨a, b⟩
    · by_cases z : j < 6
      · exact Or.inl ⟨j, z, b, c⟩
      · exact Or.inr ⟨Or.inr ⟨j, by omega, a, b⟩, fun d _ hd z2 => by rw [c] at z2; have := q_inj (by omega) (by omega) z2; omega⟩
    · refine Or.inr ⟨Or.inl a, fun d _ hd z2 => ?_⟩
      rw [z2] at b
      rcases b with b | b
      · exact nI_pos (by omega) b
      · exact nI_ge (a := d) (b := 10) (by omega) (by omega) b) with ⟨d1, g1, f1, x1⟩ | ⟨f1, x1⟩
  case inr =>
    have T1 : ∀ rd post, wp_X8_takes tS tw rd (nI (p + 1)) (nI t) (nI (15 + n)) 0 5 post = post 0 rd (nI (p + 1)) := fun rd post => e_takesN hS ht hm (by omega) (lo := 0) (hi := 5) x1 (by omega) (by omega) rd _ post
    refine Or.inl ⟨1, upd rd (3 + n) (nI k), by omega, fun post => ?_, fun post => ?_⟩
    · rw [C0, hk]
      rcases f1 with f1 | ⟨d, ga, gb, f1⟩
      · simp (disch := omega) only [wb_X3_readItem_36, q_lt0, wp_X1_isFull, lt12n, n12, nI_1, F1, f1, nneg0]
        simp
      · have c : ¬ d < 6 := by omega
        simp (disch := omega) only [wb_X3_readItem_36, q_lt0, wp_X1_isFull, lt12n, n12, nI_1, F1, f1, lt6n, c]
        simp
    · simp (disch := omega) only [wp_X8_takesSaying, B0, e_kindOf, hk, q_lt0, r0, eq12n, hn12, pl3, pl15, q_in, q_cl, nI_1, T1]
      simp
  have T1 : ∀ rd post, wp_X8_takes tS tw rd (nI (p + 1)) (nI t) (nI (15 + n)) 0 5 post = post 1 (upd rd (15 + n) (nI d1)) (nI (p + 2)) := fun rd post => e_takesY hS ht hm (by omega) (lo := 0) (hi := 5) x1 (by omega) (by omega) (by omega) (by omega) rd post
  -- to whom
  rcases (show (∃ d, d < 6 ∧ d ≠ d1 ∧ fig (xC tw t q (p + 2)) = nI d ∧ xM tw t q (p + 2) - 48 = nI d) ∨ ((fig (xC tw t q (p + 2)) = -1 ∨ (∃ d, 6 ≤ d ∧ d < 10 ∧ fig (xC tw t q (p + 2)) = nI d) ∨ fig (xC tw t q (p + 2)) = nI d1) ∧ (xM tw t q (p + 2) - 48 = nI d1 ∨ (¬ xM tw t q (p + 2) - 48 = nI d1 ∧ ∀ d, 0 ≤ d → d ≤ 5 → ¬ xM tw t q (p + 2) - 48 = nI d))) by
    rcases sg tw t q (p + 2) with ⟨j, a, b, c, -⟩ | ⟨a, b⟩
    · by_cases z : j < 6
      · by_cases z1 : j = d1
        · subst z1; exact Or.inr ⟨Or.inr (Or.inr b), Or.inl c⟩
        · exact Or.inl ⟨j, z, z1, b, c⟩
      · have hh : ∀ d, 0 ≤ d → d ≤ 5 → ¬ xM tw t q (p + 2) - 48 = nI d := fun d _ hd z2 => by rw [c] at z2; have := q_inj (by omega) (by omega) z2; omega
        exact Or.inr ⟨Or.inr (Or.inl ⟨j, by omega, a, b⟩), Or.inr ⟨hh d1 (by omega) (by omega), hh⟩⟩
    · have hh : ∀ d, 0 ≤ d → d ≤ 5 → ¬ xM tw t q (p + 2) - 48 = nI d := fun d _ hd z2 => by
        rw [z2] at b
        rcases b with b | b
        · exact nI_pos (by omega) b
        · exact nI_ge (a := d) (b := 10) (by omega) (by omega) b
      exact Or.inr ⟨Or.inl a, Or.inr ⟨hh d1 (by omega) (by omega), hh⟩⟩) with ⟨d2, g2, n21, f2, x2⟩ | ⟨f2, x2⟩
  case inr =>
    refine Or.inl ⟨2, upd (upd rd (3 + n) (nI k)) (15 + n) (nI d1), by omega, fun post => ?_, fun post => ?_⟩
    · rw [C0, hk]
      rcases f2 with f2 | ⟨d, ga, gb, f2⟩ | f2
      · simp (disch := omega) only [wb_X3_readItem_36, q_lt0, wp_X1_isFull, lt12n, n12, nI_1, F1, f1, lt6n, g1, ad2, F2, f2, nneg0]
        simp
      · simp (disch := omega) only [wb_X3_readItem_36, q_lt0, wp_X1_isFull, lt12n, n12, nI_1, F1, f1, lt6n, g1, ad2, F2, f2, ge6n, ga]
        simp
      · have c : ¬ 6 ≤ d1 := by omega
        simp (disch := omega) only [wb_X3_readItem_36, q_lt0, wp_X1_isFull, lt12n, n12, nI_1, F1, f1, lt6n, g1, ad2, F2, f2, ge6n, c]
        simp
    · rcases x2 with x2 | ⟨x2, x3⟩
      · simp (disch := omega) only [wp_X8_takesSaying, B0, e_kindOf, hk, q_lt0, r0, eq12n, hn12, pl3, pl15, q_in, q_cl, nI_1, T1, n_1, B2, x2, q_us]
        simp
      · have T2 : ∀ rd post, wp_X8_takes tS tw rd (nI (p + 2)) (nI t) (nI (27 + n)) 0 5 post = post 0 rd (nI (p + 2)) := fun rd post => e_takesN hS ht hm (by omega) (lo := 0) (hi := 5) x3 (by omega) (by omega) rd _ post
        simp (disch := omega) only [wp_X8_takesSaying, B0, e_kindOf, hk, q_lt0, r0, eq12n, hn12, pl3, pl15, pl27, q_in, q_cl, nI_1, T1, n_1, B2, x2, q_us, T2]
        simp
  have x2' : ¬ xM tw t q (p + 2) - 48 = nI d1 := fun z => by rw [x2] at z; exact n21 (q_inj (by omega) (by omega) z)
  have c2 : ¬ 6 ≤ d2 := by omega
  have e21 : (nI d2 = nI d1) = False := by rw [q_eq (by omega) (by omega)]; simp [n21]
  have T2 : ∀ rd post, wp_X8_takes tS tw rd (nI (p + 2)) (nI t) (nI (27 + n)) 0 5 post = post 1 (upd rd (27 + n) (nI d2)) (nI (p + 3)) := fun rd post => e_takesY hS ht hm (by omega) (lo := 0) (hi := 5) x2 (by omega) (by omega) (by omega) (by omega) rd post
  -- the topic
  rcases (show (∃ d, d < 6 ∧ fig (xC tw t q (p + 3)) = nI d ∧ xM tw t q (p + 3) - 48 = nI d) ∨ ((fig (xC tw t q (p + 3)) = -1 ∨ ∃ d, 6 ≤ d ∧ d < 10 ∧ fig (xC tw t q (p + 3)) = nI d) ∧ ∀ d, 0 ≤ d → d ≤ 5 → ¬ xM tw t q (p + 3) - 48 = nI d) by
    rcases sg tw t q (p + 3) with ⟨j, a, b, c, -⟩ | ⟨a, b⟩
    · by_cases z : j < 6
      · exact Or.inl ⟨j, z, b, c⟩
      · exact Or.inr ⟨Or.inr ⟨j, by omega, a, b⟩, fun d _ hd z2 => by rw [c] at z2; have := q_inj (by omega) (by omega) z2; omega⟩
    · refine Or.inr ⟨Or.inl a, fun d _ hd z2 => ?_⟩
      rw [z2] at b
      rcases b with b | b
      · exact nI_pos (by omega) b
      · exact nI_ge (a := d) (b := 10) (by omega) (by omega) b) with ⟨d3, g3, f3, x3⟩ | ⟨f3, x3⟩
  case inr =>
    have T3 : ∀ rd post, wp_X8_takes tS tw rd (nI (p + 3)) (nI t) (nI (39 + n)) 0 5 post = post 0 rd (nI (p + 3)) := fun rd post => e_takesN hS ht hm (by omega) (lo := 0) (hi := 5) x3 (by omega) (by omega) rd _ post
    refine Or.inl ⟨3, upd (upd (upd rd (3 + n) (nI k)) (15 + n) (nI d1)) (27 + n) (nI d2), by omega, fun post => ?_, fun post => ?_⟩
    · rw [C0, hk]
      rcases f3 with f3 | ⟨d, ga, gb, f3⟩
      · simp (disch := omega) only [wb_X3_readItem_36, q_lt0, wp_X1_isFull, lt12n, n12, nI_1, F1, f1, lt6n, g1, ad2, F2, f2, ge6n, c2, e21, ad3, F3, f3, nneg0]
        simp
      · have c : ¬ d < 6 := by omega
        simp (disch := omega) only [wb_X3_readItem_36, q_lt0, wp_X1_isFull, lt12n, n12, nI_1, F1, f1, lt6n, g1, ad2, F2, f2, ge6n, c2, e21, ad3, F3, f3, c]
        simp
    · simp (disch := omega) only [wp_X8_takesSaying, B0, e_kindOf, hk, q_lt0, r0, eq12n, hn12, pl3, pl15, pl27, pl39, q_in, q_cl, nI_1, T1, n_1, B2, x2', q_us, T2, T3]
      simp
  have T3 : ∀ rd post, wp_X8_takes tS tw rd (nI (p + 3)) (nI t) (nI (39 + n)) 0 5 post = post 1 (upd rd (39 + n) (nI d3)) (nI (p + 4)) := fun rd post => e_takesY hS ht hm (by omega) (lo := 0) (hi := 5) x3 (by omega) (by omega) (by omega) (by omega) rd post
  -- the weight
  rcases (show (∃ d, 1 ≤ d ∧ d ≤ 9 ∧ fig (xC tw t q (p + 4)) = nI d ∧ xM tw t q (p + 4) - 48 = nI d) ∨ ((fig (xC tw t q (p + 4)) = -1 ∨ fig (xC tw t q (p + 4)) = nI 0) ∧ ∀ d, 1 ≤ d → d ≤ 9 → ¬ xM tw t q (p + 4) - 48 = nI d) by
    rcases sg tw t q (p + 4) with ⟨j, a, b, c, -⟩ | ⟨a, b⟩
    · by_cases z : 1 ≤ j
      · exact Or.inl ⟨j, z, by omega, b, c⟩
      · have : j = 0 := by omega
        subst this
        exact Or.inr ⟨Or.inr b, fun d _ hd z2 => by rw [c] at z2; have := q_inj (by omega) (by omega) z2; omega⟩
    · refine Or.inr ⟨Or.inl a, fun d _ hd z2 => ?_⟩
      rw [z2] at b
      rcases b with b | b
      · exact nI_pos (by omega) b
      · exact nI_ge (a := d) (b := 10) (by omega) (by omega) b) with ⟨d4, g4, g4', f4, x4⟩ | ⟨f4, x4⟩
  case inr =>
    have T4 : ∀ rd post, wp_X8_takes tS tw rd (nI (p + 4)) (nI t) (nI (51 + n)) 1 9 post = post 0 rd (nI (p + 4)) := fun rd post => e_takesN hS ht hm (by omega) (lo := 1) (hi := 9) x4 (by omega) (by omega) rd _ post
    refine Or.inl ⟨4, upd (upd (upd (upd rd (3 + n) (nI k)) (15 + n) (nI d1)) (27 + n) (nI d2)) (39 + n) (nI d3), by omega, fun post => ?_, fun post => ?_⟩
    · rw [C0, hk]
      rcases f4 with f4 | f4
      · simp (disch := omega) only [wb_X3_readItem_36, q_lt0, wp_X1_isFull, lt12n, n12, nI_1, F1, f1, lt6n, g1, ad2, F2, f2, ge6n, c2, e21, ad3, F3, f3, g3, ad4, F4, f4, nneg1]
        simp
      · simp (disch := omega) only [wb_X3_readItem_36, q_lt0, wp_X1_isFull, lt12n, n12, nI_1, F1, f1, lt6n, g1, ad2, F2, f2, ge6n, c2, e21, ad3, F3, f3, g3, ad4, F4, f4, lt1n]
        simp
    · simp (disch := omega) only [wp_X8_takesSaying, B0, e_kindOf, hk, q_lt0, r0, eq12n, hn12, pl3, pl15, pl27, pl39, pl51, q_in, q_cl, nI_1, T1, n_1, B2, x2', q_us, T2, T3, T4]
      simp
  have T4 : ∀ rd post, wp_X8_takes tS tw rd (nI (p + 4)) (nI t) (nI (51 + n)) 1 9 post = post 1 (upd rd (51 + n) (nI d4)) (nI (p + 5)) := fun rd post => e_takesY hS ht hm (by omega) (lo := 1) (hi := 9) x4 (by omega) (by omega) (by omega) (by omega) rd post
  have c4 : ¬ d4 < 1 := by omega
  have S5 : ∀ post, wp_X3_signAt 4 320 (nI 80) ts tc (nI t) (nI (p + 5)) post = post (xC tw t q (p + 5)) := fun post => e_sign hS ht hm (by omega) post
  have ad1 : ∀ a, nI a + 1 = nI (a + 1) := nI_1
  -- whom it answers
  rcases sgA tw t q (p + 5) hn with ⟨y1, y2, y3⟩ | ⟨j, hj, y1, y2, y3, y4, y5⟩ | ⟨y1, y2, y3, y4⟩
  · refine Or.inr ⟨n12, by omega, fun f => if f = 0 then k else if f = 1 then d1 else if f = 2 then d2 else if f = 3 then d3 else if f = 4 then d4 else 0, ⟨by simpa using hk6, by simpa using g1, by simpa using g2, by simpa using fun z => n21 z.symm, by simpa using g3, by simpa using g4, by simpa using g4', by simp⟩, fun post => ?_, fun post => ?_⟩
    · rw [C0, hk]
      simp (disch := omega) only [wb_X3_readItem_36, q_lt0, wp_X1_isFull, lt12n, n12, nI_1, F1, f1, lt6n, g1, ad2, F2, f2, ge6n, c2, e21, ad3, F3, f3, g3, ad4, F4, f4, lt1n, c4, le9n, g4', ad5, S5, y1, wb_X3_readItem_195, wb_X3_readItem_223, wp_X1_add, q_in, q_cl, e_bit, q_or]
      simp [ansI]
    · have z45 : ¬ (0 : Int32) ≤ 45 - 65 := by decide
      simp (disch := omega) only [wp_X8_takesSaying, B0, e_kindOf, hk, q_lt0, r0, eq12n, hn12, pl3, pl15, pl27, pl39, pl51, q_in, q_cl, nI_1, T1, n_1, B2, x2', q_us, T2, T3, T4, B5, y2, wb_X8_takesSaying_164, z45, pl63, wb_X8_takesSaying_194]
      have z0 : upd (upd (upd (upd (upd (upd rd (3 + n) (nI k)) (15 + n) (nI d1)) (27 + n) (nI d2)) (39 + n) (nI d3)) (51 + n) (nI d4)) (63 + n) (-9) 0 + 1 = nI (n + 1) := by
        simp (disch := omega) only [q_up, r0, nI_1]
      simp only [z0]
      simp [rdN, ansI]
  · refine Or.inr ⟨n12, by omega, fun f => if f = 0 then k else if f = 1 then d1 else if f = 2 then d2 else if f = 3 then d3 else if f = 4 then d4 else j + 1, ⟨by simpa using hk6, by simpa using g1, by simpa using g2, by simpa using fun z => n21 z.symm, by simpa using g3, by simpa using g4, by simpa using g4', by simpa using (show j + 1 ≤ n by omega)⟩, fun post => ?_, fun post => ?_⟩
    · rw [C0, hk]
      have hnum : ∀ post, wp_X1_hasNumber (nI n) (nI j) post = post 1 := fun post => by
        rw [e_hasNum (by omega) (by omega), if_pos hj]
      simp (disch := omega) only [wb_X3_readItem_36, q_lt0, wp_X1_isFull, lt12n, n12, nI_1, F1, f1, lt6n, g1, ad2, F2, f2, ge6n, c2, e21, ad3, F3, f3, g3, ad4, F4, f4, lt1n, c4, le9n, g4', ad5, S5, y1, y3, hnum, n_1, wb_X3_readItem_195, wb_X3_readItem_223, wp_X1_add, q_in, q_cl, e_bit, q_or]
      simp [ansI]
    · have zj : (0 : Int32) ≤ nI j := nI_pos' (by omega)
      simp (disch := omega) only [wp_X8_takesSaying, B0, e_kindOf, hk, q_lt0, r0, eq12n, hn12, pl3, pl15, pl27, pl39, pl51, q_in, q_cl, nI_1, T1, n_1, B2, x2', q_us, T2, T3, T4, B5, y2, y4, e8_plY hj, wb_X8_takesSaying_164, zj, pl63, wb_X8_takesSaying_194]
      have z0 : upd (upd (upd (upd (upd (upd rd (3 + n) (nI k)) (15 + n) (nI d1)) (27 + n) (nI d2)) (39 + n) (nI d3)) (51 + n) (nI d4)) (63 + n) (nI j) 0 + 1 = nI (n + 1) := by
        simp (disch := omega) only [q_up, r0, nI_1]
      simp only [z0]
      simp [rdN, ansI]
  · refine Or.inl ⟨5, upd (upd (upd (upd (upd rd (3 + n) (nI k)) (15 + n) (nI d1)) (27 + n) (nI d2)) (39 + n) (nI d3)) (51 + n) (nI d4), by omega, fun post => ?_, fun post => ?_⟩
    · rw [C0, hk]
      simp (disch := omega) only [wb_X3_readItem_36, q_lt0, wp_X1_isFull, lt12n, n12, nI_1, F1, f1, lt6n, g1, ad2, F2, f2, ge6n, c2, e21, ad3, F3, f3, g3, ad4, F4, f4, lt1n, c4, le9n, g4', ad5, S5, y1, e_hasNumN hW y3]
      simp
    · simp (disch := omega) only [wp_X8_takesSaying, B0, e_kindOf, hk, q_lt0, r0, eq12n, hn12, pl3, pl15, pl27, pl39, pl51, q_in, q_cl, nI_1, T1, n_1, B2, x2', q_us, T2, T3, T4, B5, y2, e8_plN y4 (show n < 2 ^ 30 by omega)]
      simp
end IT
