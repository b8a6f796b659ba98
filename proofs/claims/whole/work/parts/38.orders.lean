/-! sets of sayings: the least cost, and in how many orders they can go -/
section LO
def al (n : Nat) (h : Nat → Nat → Nat) (lb : Nat → Bool) (t i : Nat) : Bool := mayS n h t i && (!(lb i) || clr t i == 0)
def mk (n : Nat) (h : Nat → Nat → Nat) (lb : Nat → Bool) (g : Nat → Nat) (t : Nat) : Nat → Nat
  | 0 => if t = 0 then 0 else 1000000
  | k + 1 => if al n h lb t k then (if mk n h lb g t k ≤ priceS n h t k + g (clr t k) then mk n h lb g t k else priceS n h t k + g (clr t k)) else mk n h lb g t k
def wk (n : Nat) (h : Nat → Nat → Nat) (lb : Nat → Bool) (g : Nat → Nat) (t : Nat) : Nat → Nat
  | 0 => if t = 0 then 1 else 0
  | k + 1 => if al n h lb t k then wk n h lb g t k + g (clr t k) else wk n h lb g t k
def LF (n : Nat) (h : Nat → Nat → Nat) (lb : Nat → Bool) : Nat → Nat → Nat
  | 0, t => mk n h lb (fun _ => 0) t n
  | f + 1, t => mk n h lb (LF n h lb f) t n
def WF (n : Nat) (h : Nat → Nat → Nat) (lb : Nat → Bool) : Nat → Nat → Nat
  | 0, t => wk n h lb (fun _ => 0) t n
  | f + 1, t => wk n h lb (WF n h lb f) t n
def LC (n : Nat) (h : Nat → Nat → Nat) (lb : Nat → Bool) (t : Nat) : Nat := LF n h lb t t
def WC (n : Nat) (h : Nat → Nat → Nat) (lb : Nat → Bool) (t : Nat) : Nat := WF n h lb t t
variable {n : Nat} {h : Nat → Nat → Nat} {lb : Nat → Bool}
theorem clr_self {t k : Nat} (hk : k < 32) (h : t.testBit k = true) : clr t k < t := by
  have h1 : clr t k ≤ t := Nat.and_le_left
  refine Nat.lt_of_le_of_ne h1 fun e => ?_
  have h2 := tb_clr (s := t) (i := k) hk
  rw [e, h] at h2
  simp at h2
theorem al_tb {t k : Nat} (ha : al n h lb t k = true) : t.testBit k = true := by
  unfold al mayS at ha
  simp at ha
  exact ha.1.1
theorem mk_congr {g g' : Nat → Nat} {t : Nat} (hg : ∀ k, k < 32 → al n h lb t k = true → g (clr t k) = g' (clr t k)) : ∀ k, k ≤ 32 → mk n h lb g t k = mk n h lb g' t k := by
  intro k
  induction k with
  | zero => intro _; rfl
  | succ k ih =>
    intro hk
    simp only [mk]
    rw [ih (by omega)]
    by_cases ha : al n h lb t k = true
    · rw [if_pos ha, if_pos ha, hg k (by omega) ha]
    · rw [if_neg ha, if_neg ha]
theorem wk_congr {g g' : Nat → Nat} {t : Nat} (hg : ∀ k, k < 32 → al n h lb t k = true → g (clr t k) = g' (clr t k)) : ∀ k, k ≤ 32 → wk n h lb g t k = wk n h lb g' t k := by
  intro k
  induction k with
  | zero => intro _; rfl
  | succ k ih =>
    intro hk
    simp only [wk]
    rw [ih (by omega)]
    by_cases ha : al n h lb t k = true
    · rw [if_pos ha, if_pos ha, hg k (by omega) ha]
    · rw [if_neg ha, if_neg ha]
theorem LF_st (hn : n ≤ 12) : ∀ f f' t, t ≤ f → t ≤ f' → LF n h lb f t = LF n h lb f' t := by
  intro f
  induction f with
  | zero =>
    intro f' t h1 h2
    have : t = 0 := by omega
    subst this
    cases f' with
    | zero => rfl
    | succ f' => exact mk_congr (fun k _ ha => by have := al_tb ha; simp at this) n (by omega)
  | succ f ih =>
    intro f' t h1 h2
    cases f' with
    | zero =>
      have : t = 0 := by omega
      subst this
      exact mk_congr (fun k _ ha => by have := al_tb ha; simp at this) n (by omega)
    | succ f' => exact mk_congr (fun k hk ha => by have := clr_self hk (al_tb ha); exact ih f' _ (by omega) (by omega)) n (by omega)
theorem WF_st (hn : n ≤ 12) : ∀ f f' t, t ≤ f → t ≤ f' → WF n h lb f t = WF n h lb f' t := by
  intro f
  induction f with
  | zero =>
    intro f' t h1 h2
    have : t = 0 := by omega
    subst this
    cases f' with
    | zero => rfl
    | succ f' => exact wk_congr (fun k _ ha => by have := al_tb ha; simp at this) n (by omega)
  | succ f ih =>
    intro f' t h1 h2
    cases f' with
    | zero =>
      have : t = 0 := by omega
      subst this
      exact wk_congr (fun k _ ha => by have := al_tb ha; simp at this) n (by omega)
    | succ f' => exact wk_congr (fun k hk ha => by have := clr_self hk (al_tb ha); exact ih f' _ (by omega) (by omega)) n (by omega)
theorem LC_eq (hn : n ≤ 12) (t : Nat) : LC n h lb t = mk n h lb (LC n h lb) t n := by
  have h1 : LC n h lb t = LF n h lb (t + 1) t := LF_st hn t (t + 1) t (Nat.le_refl t) (by omega)
  rw [h1]
  exact mk_congr (fun k hk ha => by have := clr_self hk (al_tb ha); exact LF_st hn _ _ _ (by omega) (Nat.le_refl _)) n (by omega)
theorem WC_eq (hn : n ≤ 12) (t : Nat) : WC n h lb t = wk n h lb (WC n h lb) t n := by
  have h1 : WC n h lb t = WF n h lb (t + 1) t := WF_st hn t (t + 1) t (Nat.le_refl t) (by omega)
  rw [h1]
  exact wk_congr (fun k hk ha => by have := clr_self hk (al_tb ha); exact WF_st hn _ _ _ (by omega) (Nat.le_refl _)) n (by omega)
theorem mk_le (g : Nat → Nat) (t k : Nat) : mk n h lb g t k ≤ 1000000 := by
  induction k with
  | zero => simp only [mk]; split <;> omega
  | succ k ih => simp only [mk]; split
                 · split <;> omega
                 · exact ih
theorem LC_le (hn : n ≤ 12) (t : Nat) : LC n h lb t ≤ 1000000 := by rw [LC_eq hn]; exact mk_le _ _ _
theorem upd2 {f : Nat → Int32} {p : Nat} {a b : Int32} : upd (upd f p a) p b = upd f p b := by
  funext j
  show (if j = p then b else (if j = p then a else f j)) = if j = p then b else f j
  by_cases h : j = p <;> simp [h]
theorem updL2 {f : Nat → Int64} {p : Nat} {a b : Int64} : vp_updL (vp_updL f p a) p b = vp_updL f p b := by
  funext j
  show (if j = p then b else (if j = p then a else f j)) = if j = p then b else f j
  by_cases h : j = p <;> simp [h]
theorem L_up {f : Nat → Int64} {p q : Nat} {v : Int64} (h : q ≠ p) : vp_updL f p v q = f q := if_neg h
theorem L_us {f : Nat → Int64} {p : Nat} {v : Int64} : vp_updL f p v p = v := if_pos rfl
theorem sub_clr {t s i : Nat} (ht : t < 4096) (h : nd t s = 0) : nd (clr t i) s = 0 := by
  refine set_ext (n := 12) (nd_lt (clr_lt (n := 12) ht)) (by decide) fun e he => ?_
  have h1 : (nd t s).testBit e = false := by rw [h]; simp
  rw [tb_nd (by omega)] at h1
  rw [tb_nd (by omega), tb_clr (by omega)]
  cases a : t.testBit e <;> cases b : s.testBit e <;> simp_all
section
variable {now : Nat → Int32} {s : Nat} {last : Int32}
/-- what is held of the sets below t -/
def IV (n : Nat) (h : Nat → Nat → Nat) (lb : Nat → Bool) (s : Nat) (costs : Nat → Int32) (ways : Nat → Int64) (t : Nat) : Prop := ∀ u, u < t → nd u s = 0 → costs u = nI (LC n h lb u) ∧ ways u = lN (WC n h lb u)
theorem e_lay48 (hM : MH now n h) (hW : HW n h) (hs : s < 4096) (hlb : ∀ i, i < 12 → (nI i = last ↔ lb i = true)) {t : Nat} (ht : t ≤ s) (hsub : nd t s = 0) {costs : Nat → Int32} {ways : Nat → Int64} (hI : IV n h lb s costs ways t) (K9 : (Nat → Int32) → (Nat → Int64) → Int32 → Int32 → Prop) (c0 : Int32) (w0 : Int64) (hc0 : c0 = nI (mk n h lb (LC n h lb) t 0)) (hw0 : w0 = lN (wk n h lb (WC n h lb) t 0)) : (∃ zn, wl_X8_layOrders_48 now last K9 zn (upd costs t c0) (vp_updL ways t w0) (nI s) (nI t) 0) = K9 (upd costs t (nI (LC n h lb t))) (vp_updL ways t (lN (WC n h lb t))) (nI s) (nI (t + 1)) := by
  have hn := hW.1
  have q := lpG (σ := (Nat → Int32) × (Nat → Int64) × Int32 × Int32 × Int32) (fun K x => wb_X8_layOrders_48 now last K9 (fun a b c d e => K (a, b, c, d, e)) x.1 x.2.1 x.2.2.1 x.2.2.2.1 x.2.2.2.2) (fun z x => wl_X8_layOrders_48 now last K9 z x.1 x.2.1 x.2.2.1 x.2.2.2.1 x.2.2.2.2) (fun _ => rfl) (fun _ _ => rfl) n (fun k => (upd costs t (nI (mk n h lb (LC n h lb) t k)), vp_updL ways t (lN (wk n h lb (WC n h lb) t k)), nI s, nI t, nI k)) (K9 (upd costs t (nI (LC n h lb t))) (vp_updL ways t (lN (WC n h lb t))) (nI s) (nI (t + 1))) ?_ ?_
  · rw [hc0, hw0]
    exact q
  · intro k K hk
    have nk : ¬ n ≤ k := by omega
    have e0 : (nI (nd t s) = 0) = True := eq_true (by rw [hsub]; rfl)
    have hlk := hlb k (by omega)
    have hcl : clr t k < 4096 := clr_lt (n := 12) (by omega)
    show wb_X8_layOrders_48 now last K9 (fun a b c d e => K (a, b, c, d, e)) (upd costs t (nI (mk n h lb (LC n h lb) t k))) (vp_updL ways t (lN (wk n h lb (WC n h lb) t k))) (nI s) (nI t) (nI k) = K (upd costs t (nI (mk n h lb (LC n h lb) t (k + 1))), vp_updL ways t (lN (wk n h lb (WC n h lb) t (k + 1))), nI s, nI t, nI (k + 1))
    have c0 : (nI (clr t k) = 0) = (clr t k = 0) := by rw [z_0, q_eq (by omega) (by omega)]
    simp (disch := omega) only [wb_X8_layOrders_48, hM.1, q_le, nk, q_nd, e0, e_mayBe hM hW hk (show t < 4096 by omega), q_if0, q_sh, show nd t (2 ^ k) = clr t k from rfl, c0, nI_1]
    cases ha : al n h lb t k with
    | false =>
      have e1 : mk n h lb (LC n h lb) t (k + 1) = mk n h lb (LC n h lb) t k := by simp [mk, ha]
      have e2 : wk n h lb (WC n h lb) t (k + 1) = wk n h lb (WC n h lb) t k := by simp [wk, ha]
      rw [e1, e2]
      unfold al at ha
      cases hm : mayS n h t k with
      | false => simp
      | true =>
        rw [hm] at ha
        have hl : nI k = last := hlk.mpr (by cases hb : lb k <;> simp_all)
        have hc : clr t k ≠ 0 := by
          intro e
          rw [e] at ha; simp at ha
        simp [hl, hc]
    | true =>
      have hb := al_tb ha
      have hlt : clr t k < t := clr_self (by omega) hb
      obtain ⟨i1, i2⟩ := hI (clr t k) hlt (sub_clr (by omega) hsub)
      have hL := LC_le (h := h) (lb := lb) hn (clr t k)
      have hmk := mk_le (n := n) (h := h) (lb := lb) (LC n h lb) t k
      have hp := price_le (s := t) hW hk
      have w98 : wb_X8_layOrders_98 now (fun a b c d e => K (a, b, c, d, e)) (upd costs t (nI (mk n h lb (LC n h lb) t k))) (vp_updL ways t (lN (wk n h lb (WC n h lb) t k))) (nI s) (nI t) (nI k) (nI (clr t k)) = K (upd costs t (nI (mk n h lb (LC n h lb) t (k + 1))), vp_updL ways t (lN (wk n h lb (WC n h lb) t (k + 1))), nI s, nI t, nI (k + 1)) := by
        simp (disch := omega) only [wb_X8_layOrders_98, e_mprice hM hW hk (show t < 4096 by omega), q_in, q_cl, q_us, q_up, i1, nI_add, q_le, wb_X8_layOrders_142, upd2, L_us, L_up, i2, lN_add, updL2, nI_1]
        have e2 : wk n h lb (WC n h lb) t (k + 1) = wk n h lb (WC n h lb) t k + WC n h lb (clr t k) := by simp [wk, ha]
        rw [e2]
        by_cases c : mk n h lb (LC n h lb) t k ≤ priceS n h t k + LC n h lb (clr t k) <;> simp [mk, ha, c]
      unfold al at ha
      have hm : mayS n h t k = true := by
        cases hm : mayS n h t k <;> simp_all
      simp only [w98, hm]
      by_cases hl : nI k = last
      · have hlbk := hlk.mp hl
        have hc : clr t k = 0 := by simpa [hm, hlbk] using ha
        simp [hl, hc]
      · simp [hl]
  · intro K
    show wb_X8_layOrders_48 now last K9 (fun a b c d e => K (a, b, c, d, e)) _ _ (nI s) (nI t) (nI n) = _
    simp (disch := omega) only [wb_X8_layOrders_48, hM.1, q_le, nI_1]
    rw [← LC_eq hn, ← WC_eq hn]
    simp
theorem e_lay (hM : MH now n h) (hW : HW n h) (hs : s < 4096) (hs2 : now 2 = nI s) (hlb : ∀ i, i < 12 → (nI i = last ↔ lb i = true)) : ∀ d t costs ways, t + d = s + 1 → IV n h lb s costs ways t → ∃ costs' ways', IV n h lb s costs' ways' (s + 1) ∧ ∀ post, (∃ zn, wl_X8_layOrders_9 now last post zn costs ways (nI s) (nI t)) = post costs' ways' := by
  have hn := hW.1
  intro d
  induction d with
  | zero =>
    intro t costs ways ht hI
    have : t = s + 1 := by omega
    subst this
    refine ⟨costs, ways, hI, fun post => ?_⟩
    refine lp_en (σ := (Nat → Int32) × (Nat → Int64) × Int32 × Int32) (fun K x => wb_X8_layOrders_9 now last post (fun a b c d => K (a, b, c, d)) x.1 x.2.1 x.2.2.1 x.2.2.2) (fun z x => wl_X8_layOrders_9 now last post z x.1 x.2.1 x.2.2.1 x.2.2.2) (fun _ => rfl) (fun _ _ => rfl) (x := (costs, ways, nI s, nI (s + 1))) (fun K => ?_)
    show wb_X8_layOrders_9 now last post (fun a b c d => K (a, b, c, d)) costs ways (nI s) (nI (s + 1)) = _
    simp (disch := omega) only [wb_X8_layOrders_9, q_ltI]
    simp
  | succ d ih =>
    intro t costs ways ht hI
    have nlt : ¬ s < t := by omega
    by_cases hsub : nd t s = 0
    · have hI' : IV n h lb s (upd costs t (nI (LC n h lb t))) (vp_updL ways t (lN (WC n h lb t))) (t + 1) := by
        intro u hu hus
        by_cases e : u = t
        · subst e; exact ⟨q_us, L_us⟩
        · rw [q_up e, L_up e]; exact hI u (by omega) hus
      obtain ⟨c', w', v1, v2⟩ := ih (t + 1) _ _ (by omega) hI'
      refine ⟨c', w', v1, fun post => ?_⟩
      rw [← v2 post]
      refine lp_st (σ := (Nat → Int32) × (Nat → Int64) × Int32 × Int32) (fun K x => wb_X8_layOrders_9 now last post (fun a b c d => K (a, b, c, d)) x.1 x.2.1 x.2.2.1 x.2.2.2) (fun z x => wl_X8_layOrders_9 now last post z x.1 x.2.1 x.2.2.1 x.2.2.2) (fun _ => rfl) (fun _ _ => rfl) (x := (costs, ways, nI s, nI t)) (y := (upd costs t (nI (LC n h lb t)), vp_updL ways t (lN (WC n h lb t)), nI s, nI (t + 1))) (fun K => ?_)
      show wb_X8_layOrders_9 now last post (fun a b c d => K (a, b, c, d)) costs ways (nI s) (nI t) = K (upd costs t (nI (LC n h lb t)), vp_updL ways t (lN (WC n h lb t)), nI s, nI (t + 1))
      by_cases t0 : t = 0
      · have L := e_lay48 hM hW hs hlb (show t ≤ s by omega) hsub hI (fun a b c d => K (a, b, c, d)) 0 1 (by simp [mk, t0]; rfl) (by simp [wk, t0]; rfl)
        have e0 : (nI t = 0) = True := eq_true (by rw [t0]; rfl)
        simp (disch := omega) only [wb_X8_layOrders_9, q_ltI, nlt, e0, wb_X8_layOrders_29, q_in, q_cl, L]
        simp
      · have L := e_lay48 hM hW hs hlb (show t ≤ s by omega) hsub hI (fun a b c d => K (a, b, c, d)) 1000000 0 (by simp [mk, t0]; rfl) (by simp [wk, t0]; rfl)
        have e0 : (nI t = 0) = False := by rw [z_0, q_eq (by omega) (by omega)]; simp [t0]
        simp (disch := omega) only [wb_X8_layOrders_9, q_ltI, nlt, e0, wb_X8_layOrders_29, q_in, q_cl, L]
        simp
    · have t0 : t ≠ 0 := fun e => hsub (by rw [e]; simp [nd])
      have hI' : IV n h lb s (upd costs t 1000000) (vp_updL ways t 0) (t + 1) := by
        intro u hu hus
        by_cases e : u = t
        · subst e; exact absurd hus hsub
        · rw [q_up e, L_up e]; exact hI u (by omega) hus
      obtain ⟨c', w', v1, v2⟩ := ih (t + 1) _ _ (by omega) hI'
      refine ⟨c', w', v1, fun post => ?_⟩
      rw [← v2 post]
      refine lp_st (σ := (Nat → Int32) × (Nat → Int64) × Int32 × Int32) (fun K x => wb_X8_layOrders_9 now last post (fun a b c d => K (a, b, c, d)) x.1 x.2.1 x.2.2.1 x.2.2.2) (fun z x => wl_X8_layOrders_9 now last post z x.1 x.2.1 x.2.2.1 x.2.2.2) (fun _ => rfl) (fun _ _ => rfl) (x := (costs, ways, nI s, nI t)) (y := (upd costs t 1000000, vp_updL ways t 0, nI s, nI (t + 1))) (fun K => ?_)
      show wb_X8_layOrders_9 now last post (fun a b c d => K (a, b, c, d)) costs ways (nI s) (nI t) = K (upd costs t 1000000, vp_updL ways t 0, nI s, nI (t + 1))
      have e0 : (nI t = 0) = False := by rw [z_0, q_eq (by omega) (by omega)]; simp [t0]
      have hnd : nd t s < 4096 := nd_lt (n := 12) (by omega)
      have L : (∃ zn, wl_X8_layOrders_48 now last (fun a b c d => K (a, b, c, d)) zn (upd costs t 1000000) (vp_updL ways t 0) (nI s) (nI t) 0) = K (upd costs t 1000000, vp_updL ways t 0, nI s, nI (t + 1)) := by
        refine lp_en (σ := (Nat → Int32) × (Nat → Int64) × Int32 × Int32 × Int32) (fun K2 x => wb_X8_layOrders_48 now last (fun a b c d => K (a, b, c, d)) (fun a b c d e => K2 (a, b, c, d, e)) x.1 x.2.1 x.2.2.1 x.2.2.2.1 x.2.2.2.2) (fun z x => wl_X8_layOrders_48 now last (fun a b c d => K (a, b, c, d)) z x.1 x.2.1 x.2.2.1 x.2.2.2.1 x.2.2.2.2) (fun _ => rfl) (fun _ _ => rfl) (x := (upd costs t 1000000, vp_updL ways t 0, nI s, nI t, 0)) (fun K2 => ?_)
        show wb_X8_layOrders_48 now last (fun a b c d => K (a, b, c, d)) (fun a b c d e => K2 (a, b, c, d, e)) (upd costs t 1000000) (vp_updL ways t 0) (nI s) (nI t) 0 = _
        have e1 : (nI (nd t s) = 0) = False := by rw [z_0, q_eq (by omega) (by omega)]; simp [hsub]
        by_cases c : now 0 ≤ 0 <;> simp only [wb_X8_layOrders_48, q_nd, e1, nI_1, c] <;> simp
      simp (disch := omega) only [wb_X8_layOrders_9, q_ltI, nlt, e0, wb_X8_layOrders_29, q_in, q_cl, L]
      simp
end
end LO
