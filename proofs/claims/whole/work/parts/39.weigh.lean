/-! the least cost: the class's table -/
theorem pc_clr {t i : Nat} (hi : i < 12) (hb : t.testBit i = true) : pc (clr t i) + 1 = pc t := by
  have key : ∀ m, m ≤ 12 → cn m (fun e => (clr t i).testBit e) + (if i < m then 1 else 0) = cn m (fun e => t.testBit e) := by
    intro m
    induction m with
    | zero => intro _; simp [cn]
    | succ m ih =>
      intro hm
      have := ih (by omega)
      have et := tb_clr (s := t) (i := i) (e := m) (by omega)
      simp only [cn, et]
      by_cases e : m = i
      · subst e
        simp [hb] at this ⊢
        omega
      · by_cases e2 : i < m
        · have e3 : i < m + 1 := by omega
          by_cases c : t.testBit m = true <;> simp [e, e2, e3, c] at this ⊢ <;> omega
        · have e3 : ¬ i < m + 1 := by omega
          by_cases c : t.testBit m = true <;> simp [e, e2, e3, c] at this ⊢ <;> omega
  have := key 12 (Nat.le_refl _)
  simp [hi] at this
  exact this
theorem top_ex {t : Nat} : ∀ m, t < 2 ^ m → t ≠ 0 → ∃ i, i < m ∧ t.testBit i = true ∧ ∀ e, i < e → t.testBit e = false := by
  intro m
  induction m with
  | zero => intro h1 h2; omega
  | succ m ih =>
    intro h1 h2
    cases hb : t.testBit m with
    | true => exact ⟨m, by omega, hb, fun e he => lt_tb h1 (by omega)⟩
    | false =>
      have h3 : t < 2 ^ m := by
        refine Nat.lt_pow_two_of_testBit _ fun e he => ?_
        by_cases e2 : e = m
        · subst e2; exact hb
        · exact lt_tb h1 (by omega)
      obtain ⟨i, a, b, c⟩ := ih h3 h2
      exact ⟨i, by omega, b, c⟩
section WG
variable {kinds whos toWhoms topics weights answered : Nat → Int32} {n s : Nat} {h : Nat → Nat → Nat}
def lb0 : Nat → Bool := fun _ => false
theorem al0 (t i : Nat) : al n h lb0 t i = mayS n h t i := by unfold al lb0; simp
theorem top_may (hW : HW n h) {t i : Nat} (hb : t.testBit i = true) (ht : ∀ e, i < e → t.testBit e = false) : mayS n h t i = true := by
  have h0 : nAns n h t i = 0 := by
    unfold nAns
    refine cn_zero fun e he => ?_
    cases c : ansB h i e with
    | false => simp
    | true =>
      unfold ansB at c
      have h1 := hW.an he
      have h2 : h 5 e = i + 1 := by simpa using c
      rw [ht e (by omega)]; rfl
  unfold mayS
  simp [hb, h0]
theorem mk_min {lb : Nat → Bool} (g : Nat → Nat) (t : Nat) : ∀ m k, k < m → al n h lb t k = true → mk n h lb g t m ≤ priceS n h t k + g (clr t k) := by
  intro m
  induction m with
  | zero => intro k hk; omega
  | succ m ih =>
    intro k hk ha
    simp only [mk]
    by_cases e : k = m
    · subst e
      rw [if_pos ha]
      split <;> omega
    · have := ih k (by omega) ha
      split
      · split <;> omega
      · exact this
theorem mk_att {lb : Nat → Bool} (g : Nat → Nat) (t : Nat) : ∀ m, mk n h lb g t m = mk n h lb g t 0 ∨ ∃ k, k < m ∧ al n h lb t k = true ∧ mk n h lb g t m = priceS n h t k + g (clr t k) := by
  intro m
  induction m with
  | zero => exact Or.inl rfl
  | succ m ih =>
    have lift : mk n h lb g t (m + 1) = mk n h lb g t m → mk n h lb g t (m + 1) = mk n h lb g t 0 ∨ ∃ k, k < m + 1 ∧ al n h lb t k = true ∧ mk n h lb g t (m + 1) = priceS n h t k + g (clr t k) := by
      intro e
      rcases ih with h1 | ⟨k, a, b, c⟩
      · exact Or.inl (by rw [e, h1])
      · exact Or.inr ⟨k, by omega, b, by rw [e, c]⟩
    by_cases ha : al n h lb t m = true
    · by_cases hc : mk n h lb g t m ≤ priceS n h t m + g (clr t m)
      · exact lift (by simp [mk, ha, hc])
      · exact Or.inr ⟨m, by omega, ha, by simp [mk, ha, hc]⟩
    · exact lift (by simp [mk, ha])
theorem LC_bd (hW : HW n h) : ∀ N t, t < N → t < 2 ^ n → LC n h lb0 t ≤ 30 * pc t := by
  have hn := hW.1
  intro N
  induction N with
  | zero => intro t h1; omega
  | succ N ih =>
    intro t h1 h2
    rw [LC_eq hn]
    by_cases t0 : t = 0
    · subst t0
      rcases mk_att (n := n) (h := h) (lb := lb0) (LC n h lb0) 0 n with e | ⟨k, a, b, c⟩
      · rw [e]; simp [mk]
      · have := al_tb b; simp at this
    · obtain ⟨i, a, b, c⟩ := top_ex n h2 t0
      have hm := top_may hW b c
      have h3 := mk_min (n := n) (h := h) (lb := lb0) (LC n h lb0) t n i a (by rw [al0]; exact hm)
      have h4 := price_le (s := t) hW a
      have h5 := clr_self (t := t) (k := i) (by omega) b
      have h6 := ih (clr t i) (by omega) (clr_lt h2)
      have h7 := pc_clr (t := t) (i := i) (by omega) b
      omega
/-- the first of the cheapest -/
def FC (n : Nat) (h : Nat → Nat → Nat) (t : Nat) : Nat := fi n 0 (fun i => mayS n h t i && (priceS n h t i + LC n h lb0 (clr t i) == LC n h lb0 t))
theorem FC_is (hW : HW n h) {t : Nat} (ht : t < 2 ^ n) (t0 : t ≠ 0) : FC n h t < n ∧ mayS n h t (FC n h t) = true ∧ priceS n h t (FC n h t) + LC n h lb0 (clr t (FC n h t)) = LC n h lb0 t ∧ ∀ j, j < FC n h t → ¬ (mayS n h t j = true ∧ priceS n h t j + LC n h lb0 (clr t j) = LC n h lb0 t) := by
  have hn := hW.1
  have hb := LC_bd hW (t + 1) t (by omega) ht
  have hpc := pc_le t
  have e := LC_eq (n := n) (h := h) (lb := lb0) hn t
  have hlt : FC n h t < 0 + n := by
    rcases mk_att (n := n) (h := h) (lb := lb0) (LC n h lb0) t n with c | ⟨k, a, b, c⟩
    · exfalso
      have : mk n h lb0 (LC n h lb0) t 0 = 1000000 := by simp [mk, t0]
      omega
    · rw [al0] at b
      rcases Nat.lt_or_ge (FC n h t) (0 + n) with hh | hh
      · exact hh
      · exfalso
        have := fi_min (f := n) (k := 0) (j := k) (P := fun i => mayS n h t i && (priceS n h t i + LC n h lb0 (clr t i) == LC n h lb0 t)) (by omega) (by show k < FC n h t; omega)
        have c2 : priceS n h t k + LC n h lb0 (clr t k) = LC n h lb0 t := by omega
        simp [b, c2] at this
  have h1 := fi_tb (f := n) (k := 0) (P := fun i => mayS n h t i && (priceS n h t i + LC n h lb0 (clr t i) == LC n h lb0 t)) hlt
  have h1' : (mayS n h t (FC n h t) && (priceS n h t (FC n h t) + LC n h lb0 (clr t (FC n h t)) == LC n h lb0 t)) = true := h1
  simp at h1'
  refine ⟨by omega, h1'.1, h1'.2, fun j hj hc => ?_⟩
  have := fi_min (f := n) (k := 0) (j := j) (P := fun i => mayS n h t i && (priceS n h t i + LC n h lb0 (clr t i) == LC n h lb0 t)) (by omega) hj
  simp [hc.1, hc.2] at this
/-- who holds one back -/
def hdS (n : Nat) (h : Nat → Nat → Nat) (i : Nat) : Nat := if h 0 i = 4 then 0 else bm n (ansB h i)
def IR (n : Nat) (h : Nat → Nat → Nat) (O H : Nat → Int32) : Prop := ∀ i, i < n → O i = nI (bm n (oth h i)) ∧ H i = nI (hdS n h i)
theorem e_canGo (hW : HW n h) {O H : Nat → Int32} (hI : IR n h O H) {i t : Nat} (hi : i < n) (ht : t < 4096) (post : Int32 → Prop) : wp_X2_canGo H (nI i) (nI t) post = post (if mayS n h t i = true then 1 else 0) := by
  have hn := hW.1
  have hl : bm n (ansB h i) < 4096 := bm_le n _ (N := 12) hn
  have hd : hdS n h i < 4096 := by unfold hdS; split <;> omega
  have ha : hdS n h i &&& t < 4096 := and_lt (n := 12) hd
  have e1 : (hdS n h i &&& t = 0) = (h 0 i = 4 ∨ nAns n h t i = 0) := by
    unfold hdS
    by_cases c : h 0 i = 4
    · simp [c]
    · rw [if_neg c, and_bm hn]
      have e2 : cn n (fun e => ansB h i e && t.testBit e) = nAns n h t i := cn_congr fun e _ => Bool.and_comm _ _
      rw [← e2]
      apply propext
      rw [bm_eq0, cn_eq0]
      simp [c]
  simp (disch := omega) only [wp_X2_canGo, e_has, q_if0, q_in, q_cl, (hI i hi).2, q_and, z_0, q_eq, e1]
  cases c1 : t.testBit i <;> by_cases c2 : h 0 i = 4 <;> by_cases c3 : nAns n h t i = 0 <;> simp [mayS, c1, c2, c3, show nI 0 = 0 from rfl]
theorem e_costFrom (hR : HR kinds whos toWhoms topics weights answered n h) (hW : HW n h) {ls O H : Nat → Int32} (hI : IR n h O H) {i t : Nat} (hi : i < n) (ht : t < 4096) (hL : ls (clr t i) = nI (LC n h lb0 (clr t i))) (post : Int32 → Prop) : wp_X2_costFrom ls O kinds topics weights (nI i) (nI t) post = post (nI (priceS n h t i + LC n h lb0 (clr t i))) := by
  have hn := hW.1
  have e1 : pc (bm n (oth h i) &&& t) = heatS n h t i := by
    rw [and_bm hn, pc_bm hn]; rfl
  have l1 : bm n (oth h i) &&& t < 4096 := and_lt (n := 12) (bm_le n _ hn)
  have l2 := heat_le t i hW
  have l3 : clr t i < 4096 := clr_lt (n := 12) ht
  simp (disch := omega) only [wp_X2_costFrom, q_in, q_cl, (hI i hi).1, q_and, e_bc, e1, e_priceAtHeat hR hW hi, e_bit, q_nd, show nd t (2 ^ i) = clr t i from rfl, hL, nI_add]
  simp [priceS]
def I7 (n : Nat) (h : Nat → Nat → Nat) (s : Nat) (ls : Nat → Int32) (t : Nat) : Prop := ∀ u, u < t → nd u s = 0 → ls u = nI (LC n h lb0 u)
theorem e_leastOf (hR : HR kinds whos toWhoms topics weights answered n h) (hW : HW n h) {ls O H : Nat → Int32} (hI : IR n h O H) {t : Nat} (ht : t < 4096) (t0 : t ≠ 0) (hs : nd t s = 0) (h7 : I7 n h s ls t) (post : Int32 → Prop) : wp_X2_leastOf ls O H kinds topics weights (nI n) (nI t) post = post (nI (LC n h lb0 t)) := by
  have hn := hW.1
  rw [LC_eq hn]
  have e0 : (1000000 : Int32) = nI (mk n h lb0 (LC n h lb0) t 0) := by simp [mk, t0]; rfl
  unfold wp_X2_leastOf
  rw [e0]
  refine lpG (σ := Int32 × Int32) (fun K x => wb_X2_leastOf_6 ls O H kinds topics weights (nI n) (nI t) post (fun u v => K (u, v)) x.1 x.2) (fun z x => wl_X2_leastOf_6 ls O H kinds topics weights (nI n) (nI t) post z x.1 x.2) (fun _ => rfl) (fun _ _ => rfl) n (fun k => (nI (mk n h lb0 (LC n h lb0) t k), nI k)) _ (fun k K hk => ?_) (fun K => ?_)
  · have nk : ¬ n ≤ k := by omega
    show wb_X2_leastOf_6 ls O H kinds topics weights (nI n) (nI t) post (fun u v => K (u, v)) (nI (mk n h lb0 (LC n h lb0) t k)) (nI k) = K (nI (mk n h lb0 (LC n h lb0) t (k + 1)), nI (k + 1))
    simp (disch := omega) only [wb_X2_leastOf_6, wp_X1_howMany, q_le, nk, e_canGo hW hI hk ht, q_if0, nI_1]
    cases hm : mayS n h t k with
    | false => simp [mk, al0, hm]
    | true =>
      have hb : t.testBit k = true := by unfold mayS at hm; simp at hm; exact hm.1
      have hL := h7 (clr t k) (clr_self (by omega) hb) (sub_clr ht hs)
      have b1 := LC_le (h := h) (lb := lb0) hn (clr t k)
      have b2 := mk_le (n := n) (h := h) (lb := lb0) (LC n h lb0) t k
      have b3 := price_le (s := t) hW hk
      simp (disch := omega) only [e_costFrom hR hW hI hk ht hL, q_ltI]
      by_cases c : mk n h lb0 (LC n h lb0) t k ≤ priceS n h t k + LC n h lb0 (clr t k)
      · have c2 : ¬ priceS n h t k + LC n h lb0 (clr t k) < mk n h lb0 (LC n h lb0) t k := by omega
        simp [mk, al0, hm, c, c2]
      · have c2 : priceS n h t k + LC n h lb0 (clr t k) < mk n h lb0 (LC n h lb0) t k := by omega
        simp [mk, al0, hm, c, c2]
  · show wb_X2_leastOf_6 ls O H kinds topics weights (nI n) (nI t) post (fun u v => K (u, v)) _ (nI n) = _
    simp (disch := omega) only [wb_X2_leastOf_6, wp_X1_howMany, q_le]
    simp
theorem e_weigh52 (hR : HR kinds whos toWhoms topics weights answered n h) (hW : HW n h) (hs : s < 4096) {O H : Nat → Int32} (hI : IR n h O H) : ∀ d t ls, t + d = s + 1 → 1 ≤ t → I7 n h s ls t → ∃ ls', I7 n h s ls' (s + 1) ∧ ∀ post, (∃ zn, wl_X2_weigh_52 kinds topics weights (nI n) post zn ls O H (nI s) (nI t)) = post (ls' s) ls' O H := by
  have hn := hW.1
  intro d
  induction d with
  | zero =>
    intro t ls ht h1 h7
    have : t = s + 1 := by omega
    subst this
    refine ⟨ls, h7, fun post => ?_⟩
    refine lp_en (σ := (Nat → Int32) × (Nat → Int32) × (Nat → Int32) × Int32 × Int32) (fun K x => wb_X2_weigh_52 kinds topics weights (nI n) post (fun a b c d e => K (a, b, c, d, e)) x.1 x.2.1 x.2.2.1 x.2.2.2.1 x.2.2.2.2) (fun z x => wl_X2_weigh_52 kinds topics weights (nI n) post z x.1 x.2.1 x.2.2.1 x.2.2.2.1 x.2.2.2.2) (fun _ => rfl) (fun _ _ => rfl) (x := (ls, O, H, nI s, nI (s + 1))) (fun K => ?_)
    show wb_X2_weigh_52 kinds topics weights (nI n) post (fun a b c d e => K (a, b, c, d, e)) ls O H (nI s) (nI (s + 1)) = _
    simp (disch := omega) only [wb_X2_weigh_52, q_ltI, q_in, q_cl]
    simp
  | succ d ih =>
    intro t ls ht h1 h7
    have nlt : ¬ s < t := by omega
    have hnd : nd t s < 4096 := nd_lt (n := 12) (by omega)
    by_cases hsub : nd t s = 0
    · have h7' : I7 n h s (upd ls t (nI (LC n h lb0 t))) (t + 1) := by
        intro u hu hus
        by_cases e : u = t
        · subst e; exact q_us
        · rw [q_up e]; exact h7 u (by omega) hus
      obtain ⟨l', v1, v2⟩ := ih (t + 1) _ (by omega) (by omega) h7'
      refine ⟨l', v1, fun post => ?_⟩
      rw [← v2 post]
      refine lp_st (σ := (Nat → Int32) × (Nat → Int32) × (Nat → Int32) × Int32 × Int32) (fun K x => wb_X2_weigh_52 kinds topics weights (nI n) post (fun a b c d e => K (a, b, c, d, e)) x.1 x.2.1 x.2.2.1 x.2.2.2.1 x.2.2.2.2) (fun z x => wl_X2_weigh_52 kinds topics weights (nI n) post z x.1 x.2.1 x.2.2.1 x.2.2.2.1 x.2.2.2.2) (fun _ => rfl) (fun _ _ => rfl) (x := (ls, O, H, nI s, nI t)) (y := (upd ls t (nI (LC n h lb0 t)), O, H, nI s, nI (t + 1))) (fun K => ?_)
      show wb_X2_weigh_52 kinds topics weights (nI n) post (fun a b c d e => K (a, b, c, d, e)) ls O H (nI s) (nI t) = K (upd ls t (nI (LC n h lb0 t)), O, H, nI s, nI (t + 1))
      have e0 : (nI (nd t s) = 0) = True := eq_true (by rw [hsub]; rfl)
      simp (disch := omega) only [wb_X2_weigh_52, q_ltI, nlt, q_nd, e0, e_leastOf hR hW hI (show t < 4096 by omega) (show t ≠ 0 by omega) hsub h7, q_in, q_cl, nI_1]
      simp
    · have h7' : I7 n h s ls (t + 1) := by
        intro u hu hus
        by_cases e : u = t
        · subst e; exact absurd hus hsub
        · exact h7 u (by omega) hus
      obtain ⟨l', v1, v2⟩ := ih (t + 1) _ (by omega) (by omega) h7'
      refine ⟨l', v1, fun post => ?_⟩
      rw [← v2 post]
      refine lp_st (σ := (Nat → Int32) × (Nat → Int32) × (Nat → Int32) × Int32 × Int32) (fun K x => wb_X2_weigh_52 kinds topics weights (nI n) post (fun a b c d e => K (a, b, c, d, e)) x.1 x.2.1 x.2.2.1 x.2.2.2.1 x.2.2.2.2) (fun z x => wl_X2_weigh_52 kinds topics weights (nI n) post z x.1 x.2.1 x.2.2.1 x.2.2.2.1 x.2.2.2.2) (fun _ => rfl) (fun _ _ => rfl) (x := (ls, O, H, nI s, nI t)) (y := (ls, O, H, nI s, nI (t + 1))) (fun K => ?_)
      show wb_X2_weigh_52 kinds topics weights (nI n) post (fun a b c d e => K (a, b, c, d, e)) ls O H (nI s) (nI t) = K (ls, O, H, nI s, nI (t + 1))
      have e0 : (nI (nd t s) = 0) = False := by rw [z_0, q_eq (by omega) (by omega)]; simp [hsub]
      simp (disch := omega) only [wb_X2_weigh_52, q_ltI, nlt, q_nd, e0, nI_1]
      simp
theorem e_holders (hR : HR kinds whos toWhoms topics weights answered n h) (hW : HW n h) {i : Nat} (hi : i < n) (post : Int32 → Prop) : wp_X1_holders kinds answered (nI n) (nI i) post = post (nI (hdS n h i)) := by
  have hn := hW.1
  have hb := hW.2 i hi
  obtain ⟨r0, r1, r2, r3, r4, r5⟩ := hR i hi
  simp (disch := omega) only [wp_X1_holders, q_in, q_cl, r0, z_4, q_eq, e_answerers hR hW hi]
  by_cases c : h 0 i = 4 <;> simp [hdS, c, show nI 0 = 0 from rfl]
theorem e_weigh (hR : HR kinds whos toWhoms topics weights answered n h) (hW : HW n h) (hs : s < 4096) (ls O H : Nat → Int32) : ∃ ls' O' H', I7 n h s ls' (s + 1) ∧ IR n h O' H' ∧ ∀ post, wp_X2_weigh ls O H kinds whos toWhoms topics weights answered (nI n) (nI s) post = post (nI (LC n h lb0 s)) ls' O' H' := by
  have hn := hW.1
  have hI : IR n h (fun j => if j < n then nI (bm n (oth h j)) else O j) (fun j => if j < n then nI (hdS n h j) else H j) := fun i hi => ⟨if_pos hi, if_pos hi⟩
  have h70 : I7 n h s (upd ls 0 0) 1 := by
    intro u hu _
    have : u = 0 := by omega
    subst this
    have := LC_bd hW 1 0 (by omega) (Nat.two_pow_pos n)
    rw [pc_0] at this
    have e : LC n h lb0 0 = 0 := by omega
    rw [e]; exact q_us
  obtain ⟨l', v1, v2⟩ := e_weigh52 hR hW hs hI s 1 (upd ls 0 0) (by omega) (by omega) h70
  refine ⟨l', _, _, v1, hI, fun post => ?_⟩
  have es : l' s = nI (LC n h lb0 s) := v1 s (by omega) (by
    refine set_ext (n := 12) (nd_lt hs) (by decide) fun e he => ?_
    rw [tb_nd (by omega)]; simp)
  have v2' := v2 post
  rw [es] at v2'
  have w1 : (∃ zn, wl_X2_weigh_52 kinds topics weights (nI n) post zn (upd ls 0 0) (fun j => if j < n then nI (bm n (oth h j)) else O j) (fun j => if j < n then nI (hdS n h j) else H j) (nI s) 1) = post (nI (LC n h lb0 s)) l' (fun j => if j < n then nI (bm n (oth h j)) else O j) (fun j => if j < n then nI (hdS n h j) else H j) := v2'
  unfold wp_X2_weigh wp_X1_saidBits
  have up : ∀ (f g : Nat → Int32) (k : Nat), upd (fun j => if j < k then f j else g j) k (f k) = fun j => if j < k + 1 then f j else g j := by
    intro f g k
    funext j
    show (if j = k then f k else (if j < k then f j else g j)) = if j < k + 1 then f j else g j
    by_cases h1 : j = k
    · subst h1; simp
    · rw [if_neg h1]
      by_cases h2 : j < k
      · rw [if_pos h2, if_pos (by omega)]
      · rw [if_neg h2, if_neg (by omega)]
  have z : ∀ f g : Nat → Int32, (fun j => if j < 0 then f j else g j) = g := fun f g => by funext j; rw [if_neg (by omega)]
  have q := lpG (σ := (Nat → Int32) × (Nat → Int32) × (Nat → Int32) × Int32 × Int32) (fun K x => wb_X2_weigh_7 kinds whos toWhoms topics weights answered (nI n) post (fun a b c d e => K (a, b, c, d, e)) x.1 x.2.1 x.2.2.1 x.2.2.2.1 x.2.2.2.2) (fun z x => wl_X2_weigh_7 kinds whos toWhoms topics weights answered (nI n) post z x.1 x.2.1 x.2.2.1 x.2.2.2.1 x.2.2.2.2) (fun _ => rfl) (fun _ _ => rfl) n (fun k => (ls, (fun j => if j < k then nI (bm n (oth h j)) else O j), (fun j => if j < k then nI (hdS n h j) else H j), nI s, nI k)) (post (nI (LC n h lb0 s)) l' (fun j => if j < n then nI (bm n (oth h j)) else O j) (fun j => if j < n then nI (hdS n h j) else H j)) ?_ ?_
  · rw [z, z] at q
    exact q
  · intro k K hk
    have nk : ¬ n ≤ k := by omega
    show wb_X2_weigh_7 kinds whos toWhoms topics weights answered (nI n) post (fun a b c d e => K (a, b, c, d, e)) ls (fun j => if j < k then nI (bm n (oth h j)) else O j) (fun j => if j < k then nI (hdS n h j) else H j) (nI s) (nI k) = K (ls, (fun j => if j < k + 1 then nI (bm n (oth h j)) else O j), (fun j => if j < k + 1 then nI (hdS n h j) else H j), nI s, nI (k + 1))
    simp (disch := omega) only [wb_X2_weigh_7, wp_X1_howMany, q_le, nk, e_others hR hW hk, q_in, q_cl, e_holders hR hW hk, nI_1]
    rw [up (fun j => nI (bm n (oth h j))) O k, up (fun j => nI (hdS n h j)) H k]
    simp
  · intro K
    show wb_X2_weigh_7 kinds whos toWhoms topics weights answered (nI n) post (fun a b c d e => K (a, b, c, d, e)) ls (fun j => if j < n then nI (bm n (oth h j)) else O j) (fun j => if j < n then nI (hdS n h j) else H j) (nI s) (nI n) = _
    simp (disch := omega) only [wb_X2_weigh_7, wp_X1_howMany, q_le, w1]
    simp
end WG
