/-! rings, away -/
def ov (t : Nat → Nat) (d : Nat → Int32) : Nat → Int32 := fun j => if j < 6 then nI (t j) else d j
def stN (t : Nat → Nat) (p x : Nat) : Nat → Nat := fun j => if j = p then x else t j
theorem ov_p {t : Nat → Nat} {d : Nat → Int32} {p : Nat} (hp : p < 6) : ov t d p = nI (t p) := if_pos hp
theorem ov_upd {t : Nat → Nat} {d : Nat → Int32} {p x : Nat} (hp : p < 6) : upd (ov t d) p (nI x) = ov (stN t p x) d := by
  funext j
  show (if j = p then nI x else (if j < 6 then nI (t j) else d j)) = if j < 6 then nI (if j = p then x else t j) else d j
  by_cases h1 : j = p
  · subst h1; simp [hp]
  · simp [h1]
theorem ov_ov (t t' : Nat → Nat) (d : Nat → Int32) : ov t (ov t' d) = ov t d := by
  funext j
  unfold ov
  by_cases h : j < 6 <;> simp [h]
theorem st_same (t : Nat → Nat) (p : Nat) : stN t p (t p) = t := by
  funext j
  unfold stN
  by_cases h : j = p
  · subst h; simp
  · simp [h]
theorem st_lt {t : Nat → Nat} (ht : ∀ p, t p < 64) {p x : Nat} (hx : x < 64) : ∀ q, stN t p x q < 64 := by
  intro q
  unfold stN
  split
  · exact hx
  · exact ht q
theorem e_fill0 {nc : Nat} (hn : nc < 2 ^ 31) (d : Nat → Int32) (post : (Nat → Int32) → Prop) : wp_J7_fill_53178 nc d 0 post = post (fun j => if j < nc then 0 else d j) := by
  have e0 : (fun j => if j < 0 then (0 : Int32) else d j) = d := by
    funext j; rw [if_neg (by omega)]
  have q := lpG (σ := (Nat → Int32) × Int32 × Int32) (fun K x => wb_J7_fill_53178_5 nc 0 post (fun u v w => K (u, v, w)) x.1 x.2.1 x.2.2) (fun z x => wl_J7_fill_53178_5 nc 0 post z x.1 x.2.1 x.2.2) (fun _ => rfl) (fun _ _ => rfl) nc (fun k => ((fun j => if j < k then (0 : Int32) else d j), nI k, nI nc)) (post (fun j => if j < nc then 0 else d j)) ?_ ?_
  · rw [e0] at q
    exact q
  · intro k K hk
    have c : ¬ nc ≤ k := by omega
    show wb_J7_fill_53178_5 nc 0 post (fun u v w => K (u, v, w)) (fun j => if j < k then (0 : Int32) else d j) (nI k) (nI nc) = K ((fun j => if j < k + 1 then (0 : Int32) else d j), nI (k + 1), nI nc)
    have e1 : upd (fun j => if j < k then (0 : Int32) else d j) k 0 = fun j => if j < k + 1 then (0 : Int32) else d j := by
      funext j
      show (if j = k then (0 : Int32) else (if j < k then 0 else d j)) = if j < k + 1 then 0 else d j
      by_cases h1 : j = k
      · rw [if_pos h1, if_pos (by omega)]
      · rw [if_neg h1]
        by_cases h2 : j < k
        · rw [if_pos h2, if_pos (by omega)]
        · rw [if_neg h2, if_neg (by omega)]
    simp (disch := omega) only [wb_J7_fill_53178_5, q_le, c, q_in, q_cl, nI_1, e1]
    simp
  · intro K
    show wb_J7_fill_53178_5 nc 0 post (fun u v w => K (u, v, w)) _ (nI nc) (nI nc) = _
    simp (disch := omega) only [wb_J7_fill_53178_5, q_le]
    simp
/-- who tells whom, of the first sayings -/
def lis (h : Nat → Nat → Nat) (s g : Nat) : Nat → Nat → Nat
  | 0 => fun _ => 0
  | k + 1 => if s.testBit k && (!g.testBit (h 1 k) && !g.testBit (h 2 k)) then stN (lis h s g k) (h 1 k) (lis h s g k (h 1 k) ||| 2 ^ h 2 k) else lis h s g k
def ws (via : Nat) (t : Nat → Nat) : Nat → Nat → Nat
  | 0 => t
  | k + 1 => if (ws via t k k).testBit via then stN (ws via t k) k (ws via t k k ||| ws via t k via) else ws via t k
def wa (t : Nat → Nat) : Nat → Nat → Nat
  | 0 => t
  | k + 1 => ws k (wa t k) 6
theorem ws_lt {via : Nat} {t : Nat → Nat} (ht : ∀ p, t p < 64) : ∀ k p, ws via t k p < 64 := by
  intro k
  induction k with
  | zero => exact ht
  | succ k ih =>
    simp only [ws]
    split
    · exact st_lt ih (or_lt (n := 6) (ih k) (ih via))
    · exact ih
theorem wa_lt {t : Nat → Nat} (ht : ∀ p, t p < 64) : ∀ k p, wa t k p < 64 := by
  intro k
  induction k with
  | zero => exact ht
  | succ k ih => exact ws_lt ih 6
section HE6
variable {kinds whos toWhoms topics weights answered now : Nat → Int32} {n s : Nat} {h : Nat → Nat → Nat}
theorem lis_lt (hW : HW n h) (s g : Nat) : ∀ k, k ≤ n → ∀ p, lis h s g k p < 64 := by
  intro k
  induction k with
  | zero => intro _ p; exact (by decide : 0 < 64)
  | succ k ih =>
    intro hk
    have := ih (by omega)
    have hb := (hW.2 k (by omega)).2.2.1
    simp only [lis]
    split
    · exact st_lt this (or_lt (n := 6) (this _) (pw_lt hb))
    · exact this
/-- those in a ring, these away -/
def rgS (n : Nat) (h : Nat → Nat → Nat) (s g : Nat) : Nat := bm 6 (fun p => (wa (lis h s g n) 6 p).testBit p)
theorem e_listen (hR : HR kinds whos toWhoms topics weights answered n h) (hW : HW n h) (hs : s < 4096) {g : Nat} (hg : g < 64) (d : Nat → Int32) (post : (Nat → Int32) → Prop) : wp_X0_listen d whos toWhoms (nI n) (nI s) (nI g) post = post (ov (lis h s g n) d) := by
  have hn := hW.1
  unfold wp_X0_listen
  rw [e_fill0 (by decide)]
  refine lpG (σ := (Nat → Int32) × Int32) (fun K x => wb_X0_listen_10 whos toWhoms (nI n) (nI s) (nI g) post (fun u v => K (u, v)) x.1 x.2) (fun z x => wl_X0_listen_10 whos toWhoms (nI n) (nI s) (nI g) post z x.1 x.2) (fun _ => rfl) (fun _ _ => rfl) n (fun k => (ov (lis h s g k) d, nI k)) _ (fun k K hk => ?_) (fun K => ?_)
  · have nk : ¬ n ≤ k := by omega
    have hb := hW.2 k hk
    obtain ⟨r0, r1, r2, r3, r4, r5⟩ := hR k hk
    show wb_X0_listen_10 whos toWhoms (nI n) (nI s) (nI g) post (fun u v => K (u, v)) (ov (lis h s g k) d) (nI k) = K (ov (lis h s g (k + 1)) d, nI (k + 1))
    simp (disch := omega) only [wb_X0_listen_10, wp_X1_howMany, q_le, nk, wp_X1_whoOf, wp_X1_toWhomOf, q_in, q_cl, r1, r2, e_isSaid, q_if0, e_has, e_bit, ov_p, q_or, ov_upd, nI_1]
    cases c1 : s.testBit k <;> cases c2 : g.testBit (h 1 k) <;> cases c3 : g.testBit (h 2 k) <;> simp [lis, c1, c2, c3]
  · show wb_X0_listen_10 whos toWhoms (nI n) (nI s) (nI g) post (fun u v => K (u, v)) (ov (lis h s g n) d) (nI n) = _
    simp (disch := omega) only [wb_X0_listen_10, wp_X1_howMany, q_le]
    simp
theorem e_ws7 {via : Nat} (hv : via < 6) {t : Nat → Nat} (ht : ∀ p, t p < 64) (d : Nat → Int32) (K8 : (Nat → Int32) → Int32 → Prop) : (∃ zn, wl_X0_inRings_17 K8 zn (ov t d) (nI via) 0) = K8 (ov (ws via t 6) d) (nI (via + 1)) := by
  refine lpG (σ := (Nat → Int32) × Int32 × Int32) (fun K x => wb_X0_inRings_17 K8 (fun u v w => K (u, v, w)) x.1 x.2.1 x.2.2) (fun z x => wl_X0_inRings_17 K8 z x.1 x.2.1 x.2.2) (fun _ => rfl) (fun _ _ => rfl) 6 (fun k => (ov (ws via t k) d, nI via, nI k)) _ (fun k K hk => ?_) (fun K => ?_)
  · have nk : ¬ 6 ≤ k := by omega
    have hl := ws_lt (via := via) ht k k
    show wb_X0_inRings_17 K8 (fun u v w => K (u, v, w)) (ov (ws via t k) d) (nI via) (nI k) = K (ov (ws via t (k + 1)) d, nI via, nI (k + 1))
    simp (disch := omega) only [wb_X0_inRings_17, z_6, q_le, nk, q_in, q_cl, ov_p, e_has, q_if0, q_or, ov_upd, nI_1]
    cases c1 : (ws via t k k).testBit via <;> simp [ws, c1]
  · show wb_X0_inRings_17 K8 (fun u v w => K (u, v, w)) (ov (ws via t 6) d) (nI via) (nI 6) = _
    simp (disch := omega) only [wb_X0_inRings_17, z_6, q_le, nI_1]
    simp
theorem e_ws8 {via : Nat} (hv : via < 6) {t : Nat → Nat} (ht : ∀ p, t p < 64) (d : Nat → Int32) (K8 : (Nat → Int32) → Int32 → Prop) : (∃ zn, wl_X8_layReach_117 K8 zn (ov t d) (nI via) 0) = K8 (ov (ws via t 6) d) (nI (via + 1)) := by
  refine lpG (σ := (Nat → Int32) × Int32 × Int32) (fun K x => wb_X8_layReach_117 K8 (fun u v w => K (u, v, w)) x.1 x.2.1 x.2.2) (fun z x => wl_X8_layReach_117 K8 z x.1 x.2.1 x.2.2) (fun _ => rfl) (fun _ _ => rfl) 6 (fun k => (ov (ws via t k) d, nI via, nI k)) _ (fun k K hk => ?_) (fun K => ?_)
  · have nk : ¬ 6 ≤ k := by omega
    have hl := ws_lt (via := via) ht k k
    show wb_X8_layReach_117 K8 (fun u v w => K (u, v, w)) (ov (ws via t k) d) (nI via) (nI k) = K (ov (ws via t (k + 1)) d, nI via, nI (k + 1))
    simp (disch := omega) only [wb_X8_layReach_117, z_6, q_le, nk, q_in, q_cl, ov_p, e_mhas, q_if0, q_o0, q_or, ov_upd, nI_1]
    cases c1 : (ws via t k k).testBit via <;> simp [ws, c1, st_same]
  · show wb_X8_layReach_117 K8 (fun u v w => K (u, v, w)) (ov (ws via t 6) d) (nI via) (nI 6) = _
    simp (disch := omega) only [wb_X8_layReach_117, z_6, q_le, nI_1]
    simp
theorem e_inRings (hR : HR kinds whos toWhoms topics weights answered n h) (hW : HW n h) (hs : s < 4096) {g : Nat} (hg : g < 64) (d : Nat → Int32) (post : Int32 → (Nat → Int32) → Prop) : wp_X0_inRings d whos toWhoms (nI n) (nI s) (nI g) post = post (nI (rgS n h s g)) (ov (wa (lis h s g n) 6) d) := by
  have hl := lis_lt hW s g n (Nat.le_refl n)
  have e3 : ∀ t : Nat → Nat, (∀ p, t p < 64) → (∃ zn, wl_X0_inRings_71 post zn (ov t d) 0 0) = post (nI (bm 6 (fun p => (t p).testBit p))) (ov t d) := by
    intro t ht
    refine lpG (σ := (Nat → Int32) × Int32 × Int32) (fun K x => wb_X0_inRings_71 post (fun u v w => K (u, v, w)) x.1 x.2.1 x.2.2) (fun z x => wl_X0_inRings_71 post z x.1 x.2.1 x.2.2) (fun _ => rfl) (fun _ _ => rfl) 6 (fun k => (ov t d, nI (bm k (fun p => (t p).testBit p)), nI k)) _ (fun k K hk => ?_) (fun K => ?_)
    · have nk : ¬ 6 ≤ k := by omega
      have := ht k
      show wb_X0_inRings_71 post (fun u v w => K (u, v, w)) (ov t d) (nI (bm k (fun p => (t p).testBit p))) (nI k) = K (ov t d, nI (bm (k + 1) (fun p => (t p).testBit p)), nI (k + 1))
      simp (disch := omega) only [wb_X0_inRings_71, z_6, q_le, nk, q_in, q_cl, ov_p, e_has, q_if0, e_bit, q_or, nI_1]
      cases c1 : (t k).testBit k <;> simp [bm, c1]
    · show wb_X0_inRings_71 post (fun u v w => K (u, v, w)) (ov t d) _ (nI 6) = _
      simp (disch := omega) only [wb_X0_inRings_71, z_6, q_le]
      simp
  have e2 : (∃ zn, wl_X0_inRings_8 post zn (ov (lis h s g n) d) 0) = post (nI (rgS n h s g)) (ov (wa (lis h s g n) 6) d) := by
    refine lpG (σ := (Nat → Int32) × Int32) (fun K x => wb_X0_inRings_8 post (fun u v => K (u, v)) x.1 x.2) (fun z x => wl_X0_inRings_8 post z x.1 x.2) (fun _ => rfl) (fun _ _ => rfl) 6 (fun k => (ov (wa (lis h s g n) k) d, nI k)) _ (fun k K hk => ?_) (fun K => ?_)
    · have nk : ¬ 6 ≤ k := by omega
      show wb_X0_inRings_8 post (fun u v => K (u, v)) (ov (wa (lis h s g n) k) d) (nI k) = K (ov (wa (lis h s g n) (k + 1)) d, nI (k + 1))
      simp (disch := omega) only [wb_X0_inRings_8, z_6, q_le, nk, e_ws7 hk (wa_lt hl k)]
      simp [wa]
    · show wb_X0_inRings_8 post (fun u v => K (u, v)) (ov (wa (lis h s g n) 6) d) (nI 6) = _
      simp (disch := omega) only [wb_X0_inRings_8, z_6, q_le, e3 _ (wa_lt hl 6)]
      simp [rgS]
  unfold wp_X0_inRings
  rw [e_listen hR hW hs hg, e2]
theorem e_ringed (hM : MH now n h) (hW : HW n h) (hs : s < 4096) (hs2 : now 2 = nI s) {g : Nat} (hg : g < 64) (d : Nat → Int32) (post : Int32 → (Nat → Int32) → Prop) : wp_X8_ringed now d (nI g) post = post (nI (rgS n h s g)) (ov (wa (lis h s g n) 6) d) := by
  have hn := hW.1
  have hl := lis_lt hW s g n (Nat.le_refl n)
  have e3 : ∀ t : Nat → Nat, (∀ p, t p < 64) → (∃ zn, wl_X8_ringed_9 post zn (ov t d) 0 0) = post (nI (bm 6 (fun p => (t p).testBit p))) (ov t d) := by
    intro t ht
    refine lpG (σ := (Nat → Int32) × Int32 × Int32) (fun K x => wb_X8_ringed_9 post (fun u v w => K (u, v, w)) x.1 x.2.1 x.2.2) (fun z x => wl_X8_ringed_9 post z x.1 x.2.1 x.2.2) (fun _ => rfl) (fun _ _ => rfl) 6 (fun k => (ov t d, nI (bm k (fun p => (t p).testBit p)), nI k)) _ (fun k K hk => ?_) (fun K => ?_)
    · have nk : ¬ 6 ≤ k := by omega
      have := ht k
      show wb_X8_ringed_9 post (fun u v w => K (u, v, w)) (ov t d) (nI (bm k (fun p => (t p).testBit p))) (nI k) = K (ov t d, nI (bm (k + 1) (fun p => (t p).testBit p)), nI (k + 1))
      simp (disch := omega) only [wb_X8_ringed_9, z_6, q_le, nk, q_in, q_cl, ov_p, e_mhas, q_if0, q_sh, q_or, q_o0, nI_1]
      cases c1 : (t k).testBit k <;> simp [bm, c1]
    · show wb_X8_ringed_9 post (fun u v w => K (u, v, w)) (ov t d) _ (nI 6) = _
      simp (disch := omega) only [wb_X8_ringed_9, z_6, q_le]
      simp
  have lay : ∀ post : (Nat → Int32) → Prop, wp_X8_layReach now d (nI g) post = post (ov (wa (lis h s g n) 6) d) := by
    intro post
    have e2 : (∃ zn, wl_X8_layReach_109 post zn (ov (lis h s g n) d) 0) = post (ov (wa (lis h s g n) 6) d) := by
      refine lpG (σ := (Nat → Int32) × Int32) (fun K x => wb_X8_layReach_109 post (fun u v => K (u, v)) x.1 x.2) (fun z x => wl_X8_layReach_109 post z x.1 x.2) (fun _ => rfl) (fun _ _ => rfl) 6 (fun k => (ov (wa (lis h s g n) k) d, nI k)) _ (fun k K hk => ?_) (fun K => ?_)
      · have nk : ¬ 6 ≤ k := by omega
        show wb_X8_layReach_109 post (fun u v => K (u, v)) (ov (wa (lis h s g n) k) d) (nI k) = K (ov (wa (lis h s g n) (k + 1)) d, nI (k + 1))
        simp (disch := omega) only [wb_X8_layReach_109, z_6, q_le, nk, e_ws8 hk (wa_lt hl k)]
        simp [wa]
      · show wb_X8_layReach_109 post (fun u v => K (u, v)) (ov (wa (lis h s g n) 6) d) (nI 6) = _
        simp (disch := omega) only [wb_X8_layReach_109, z_6, q_le]
        simp
    have e1 : (∃ zn, wl_X8_layReach_23 now (nI g) post zn (ov (lis h s g 0) d) 0) = post (ov (wa (lis h s g n) 6) d) := by
      refine lpG (σ := (Nat → Int32) × Int32) (fun K x => wb_X8_layReach_23 now (nI g) post (fun u v => K (u, v)) x.1 x.2) (fun z x => wl_X8_layReach_23 now (nI g) post z x.1 x.2) (fun _ => rfl) (fun _ _ => rfl) n (fun k => (ov (lis h s g k) d, nI k)) _ (fun k K hk => ?_) (fun K => ?_)
      · have nk : ¬ n ≤ k := by omega
        have hb := hW.2 k hk
        obtain ⟨r0, r1, r2, r3, r4, r5⟩ := hM.2 k hk
        show wb_X8_layReach_23 now (nI g) post (fun u v => K (u, v)) (ov (lis h s g k) d) (nI k) = K (ov (lis h s g (k + 1)) d, nI (k + 1))
        simp (disch := omega) only [wb_X8_layReach_23, hM.1, hs2, q_le, nk, z_15, z_27, nI_add, q_in, q_cl, r1, r2, e_mhas, q_if0, q_sh, ov_p, q_o0, q_or, ov_upd, nI_1]
        cases c1 : s.testBit k <;> cases c2 : g.testBit (h 1 k) <;> cases c3 : g.testBit (h 2 k) <;> simp [lis, c1, c2, c3, st_same]
      · show wb_X8_layReach_23 now (nI g) post (fun u v => K (u, v)) (ov (lis h s g n) d) (nI n) = _
        simp (disch := omega) only [wb_X8_layReach_23, hM.1, q_le, e2]
        simp
    have e0 : (fun j => if j < 0 then (0 : Int32) else d j) = d := by
      funext j; rw [if_neg (by omega)]
    have q := lpG (σ := (Nat → Int32) × Int32) (fun K x => wb_X8_layReach_2 now (nI g) post (fun u v => K (u, v)) x.1 x.2) (fun z x => wl_X8_layReach_2 now (nI g) post z x.1 x.2) (fun _ => rfl) (fun _ _ => rfl) 6 (fun k => ((fun j => if j < k then (0 : Int32) else d j), nI k)) (post (ov (wa (lis h s g n) 6) d)) ?_ ?_
    · rw [e0] at q
      exact q
    · intro k K hk
      have nk : ¬ 6 ≤ k := by omega
      have e1 : upd (fun j => if j < k then (0 : Int32) else d j) k 0 = fun j => if j < k + 1 then (0 : Int32) else d j := by
        funext j
        show (if j = k then (0 : Int32) else (if j < k then 0 else d j)) = if j < k + 1 then 0 else d j
        by_cases h1 : j = k
        · rw [if_pos h1, if_pos (by omega)]
        · rw [if_neg h1]
          by_cases h2 : j < k
          · rw [if_pos h2, if_pos (by omega)]
          · rw [if_neg h2, if_neg (by omega)]
      show wb_X8_layReach_2 now (nI g) post (fun u v => K (u, v)) (fun j => if j < k then (0 : Int32) else d j) (nI k) = K ((fun j => if j < k + 1 then (0 : Int32) else d j), nI (k + 1))
      simp (disch := omega) only [wb_X8_layReach_2, z_6, q_le, nk, q_in, q_cl, nI_1, e1]
      simp
    · intro K
      have e1' : (∃ zn, wl_X8_layReach_23 now (nI g) post zn (fun j => if j < 6 then (0 : Int32) else d j) 0) = post (ov (wa (lis h s g n) 6) d) := e1
      show wb_X8_layReach_2 now (nI g) post (fun u v => K (u, v)) (fun j => if j < 6 then (0 : Int32) else d j) (nI 6) = _
      simp (disch := omega) only [wb_X8_layReach_2, z_6, q_le, e1']
      simp
  unfold wp_X8_ringed
  rw [lay, e3 _ (wa_lt hl 6)]
  rfl
theorem s_rings (hR : HR kinds whos toWhoms topics weights answered n h) (hM : MH now n h) (hW : HW n h) (hs : s < 4096) (hs2 : now 2 = nI s) (lt : Int32) (c d : Nat → Int32) : wp_X7_rings whos toWhoms (nI n) (nI s) c (fun a lt' _ => wp_X8_rings now lt d (fun a' as' _ => a = a' ∧ lt' = as')) := by
  have hn := hW.1
  have hl : ∀ k, k ≤ n → orM k (fun e => s.testBit e) (fun e => 2 ^ h 1 e ||| 2 ^ h 2 e) < 4096 := fun k hk => by
    have : orM k (fun e => s.testBit e) (fun e => 2 ^ h 1 e ||| 2 ^ h 2 e) < 2 ^ 6 := orM_lt (N := 6) fun e he _ => or_lt (n := 6) (pw_lt (hW.2 e (by omega)).2.1) (pw_lt (hW.2 e (by omega)).2.2.1)
    omega
  have hln := hl n (Nat.le_refl n)
  have r0 : ∀ post, wp_X0_inRings c whos toWhoms (nI n) (nI s) 0 post = post (nI (rgS n h s 0)) (ov (wa (lis h s 0 n) 6) c) := fun post => e_inRings hR hW hs (g := 0) (by decide) c post
  have m0 : ∀ post, wp_X8_ringed now d 0 post = post (nI (rgS n h s 0)) (ov (wa (lis h s 0 n) 6) d) := fun post => e_ringed hM hW hs hs2 (g := 0) (by decide) d post
  have key : ∀ post, wp_X8_rings now lt d post = post (nI (rgS n h s 0)) (nI (pc (orM n (fun e => s.testBit e) (fun e => 2 ^ h 1 e ||| 2 ^ h 2 e)))) (ov (wa (lis h s 0 n) 6) d) := by
    intro post
    refine lpG (σ := Int32 × (Nat → Int32) × Int32 × Int32) (fun K x => wb_X8_rings_4 now post (fun a b u v => K (a, b, u, v)) x.1 x.2.1 x.2.2.1 x.2.2.2) (fun z x => wl_X8_rings_4 now post z x.1 x.2.1 x.2.2.1 x.2.2.2) (fun _ => rfl) (fun _ _ => rfl) n (fun k => (lt, d, nI (orM k (fun e => s.testBit e) (fun e => 2 ^ h 1 e ||| 2 ^ h 2 e)), nI k)) _ (fun k K hk => ?_) (fun K => ?_)
    · have nk : ¬ n ≤ k := by omega
      have hb := hW.2 k hk
      obtain ⟨r0, r1, r2, r3, r4, r5⟩ := hM.2 k hk
      show wb_X8_rings_4 now post (fun a b u v => K (a, b, u, v)) lt d (nI (orM k (fun e => s.testBit e) (fun e => 2 ^ h 1 e ||| 2 ^ h 2 e))) (nI k) = K (lt, d, nI (orM (k + 1) (fun e => s.testBit e) (fun e => 2 ^ h 1 e ||| 2 ^ h 2 e)), nI (k + 1))
      simp (disch := omega) only [wb_X8_rings_4, hM.1, hs2, q_le, nk, e_mhas, q_if0, q_o0, z_15, z_27, nI_add, q_in, q_cl, r1, r2, q_sh, q_or, nI_1]
      cases c : s.testBit k <;> simp [orM, c]
    · show wb_X8_rings_4 now post (fun a b u v => K (a, b, u, v)) lt d _ (nI n) = _
      simp (disch := omega) only [wb_X8_rings_4, hM.1, q_le, m0, e_mbits, wp_X8_answer]
      simp
  simp (disch := omega) only [wp_X7_rings, e_personsOfSaid hR hW, e_bc, r0, key]
  simp
/-- the fewest found away after k tries -/
def aw (n : Nat) (h : Nat → Nat → Nat) (s : Nat) : Nat → Nat
  | 0 => 63
  | k + 1 => if pc k < pc (aw n h s k) then (if rgS n h s k = 0 then k else aw n h s k) else aw n h s k
def awT (n : Nat) (h : Nat → Nat → Nat) (s : Nat) (d : Nat → Int32) : Nat → Nat → Int32
  | 0 => d
  | k + 1 => if pc k < pc (aw n h s k) then ov (wa (lis h s k n) 6) (awT n h s d k) else awT n h s d k
theorem aw_lt (n : Nat) (h : Nat → Nat → Nat) (s : Nat) : ∀ k, k ≤ 64 → aw n h s k < 64 := by
  intro k
  induction k with
  | zero => intro _; exact (by decide : 63 < 64)
  | succ k ih =>
    intro hk
    have := ih (by omega)
    simp only [aw]
    split
    · split <;> omega
    · exact this
theorem pc64 : ∀ x, x < 64 → pc x ≤ 6 := by decide
theorem rg_lt (n : Nat) (h : Nat → Nat → Nat) (s g : Nat) : rgS n h s g < 64 := bm_lt 6 _
theorem s_away (hR : HR kinds whos toWhoms topics weights answered n h) (hM : MH now n h) (hW : HW n h) (hs : s < 4096) (hs2 : now 2 = nI s) (lt : Int32) (c d : Nat → Int32) : wp_X7_away whos toWhoms (nI n) (nI s) c (fun a lt' _ => wp_X8_away now lt d (fun a' as' _ => a = a' ∧ lt' = as')) := by
  have hn := hW.1
  have z64 : (64 : Int32) = nI 64 := rfl
  have k7 : ∀ post, wp_X0_fewestAway c whos toWhoms (nI n) (nI s) post = post (nI (aw n h s 63)) (awT n h s c 63) := by
    intro post
    refine lpG (σ := (Nat → Int32) × Int32 × Int32) (fun K x => wb_X0_fewestAway_5 whos toWhoms (nI n) (nI s) post (fun u v w => K (u, v, w)) x.1 x.2.1 x.2.2) (fun z x => wl_X0_fewestAway_5 whos toWhoms (nI n) (nI s) post z x.1 x.2.1 x.2.2) (fun _ => rfl) (fun _ _ => rfl) 63 (fun k => (awT n h s c k, nI (aw n h s k), nI k)) _ (fun k K hk => ?_) (fun K => ?_)
    · have nk : ¬ 63 ≤ k := by omega
      have ha := aw_lt n h s k (by omega)
      have p1 := pc_le k
      have p2 := pc_le (aw n h s k)
      have rl := rg_lt n h s k
      show wb_X0_fewestAway_5 whos toWhoms (nI n) (nI s) post (fun u v w => K (u, v, w)) (awT n h s c k) (nI (aw n h s k)) (nI k) = K (awT n h s c (k + 1), nI (aw n h s (k + 1)), nI (k + 1))
      simp (disch := omega) only [wb_X0_fewestAway_5, z_63, q_le, nk, e_bc, e_inRings hR hW hs (show k < 64 by omega), z_0, q_eq, nI_1]
      by_cases c1 : pc k < pc (aw n h s k)
      · have c2 : ¬ pc (aw n h s k) ≤ pc k := by omega
        by_cases c3 : rgS n h s k = 0 <;> simp [aw, awT, c1, c2, c3]
      · have c2 : pc (aw n h s k) ≤ pc k := by omega
        simp [aw, awT, c1, c2]
    · show wb_X0_fewestAway_5 whos toWhoms (nI n) (nI s) post (fun u v w => K (u, v, w)) _ _ (nI 63) = _
      simp (disch := omega) only [wb_X0_fewestAway_5, z_63, q_le]
      simp
  have k8 : ∀ post, wp_X8_away now lt d post = post (nI (pc (aw n h s 64))) (nI (aw n h s 64)) (awT n h s d 64) := by
    intro post
    refine lpG (σ := Int32 × (Nat → Int32) × Int32 × Int32) (fun K x => wb_X8_away_5 now post (fun a u v w => K (a, u, v, w)) x.1 x.2.1 x.2.2.1 x.2.2.2) (fun z x => wl_X8_away_5 now post z x.1 x.2.1 x.2.2.1 x.2.2.2) (fun _ => rfl) (fun _ _ => rfl) 64 (fun k => (lt, awT n h s d k, nI (aw n h s k), nI k)) _ (fun k K hk => ?_) (fun K => ?_)
    · have nk : ¬ 64 ≤ k := by omega
      have ha := aw_lt n h s k (by omega)
      have p1 := pc_le k
      have p2 := pc_le (aw n h s k)
      have rl := rg_lt n h s k
      show wb_X8_away_5 now post (fun a u v w => K (a, u, v, w)) lt (awT n h s d k) (nI (aw n h s k)) (nI k) = K (lt, awT n h s d (k + 1), nI (aw n h s (k + 1)), nI (k + 1))
      simp (disch := omega) only [wb_X8_away_5, z64, q_le, nk, e_mbits, e_ringed hM hW hs hs2 (show k < 64 by omega), z_0, q_eq, nI_1]
      by_cases c1 : pc k < pc (aw n h s k)
      · have c2 : ¬ pc (aw n h s k) ≤ pc k := by omega
        by_cases c3 : rgS n h s k = 0 <;> simp [aw, awT, c1, c2, c3]
      · have c2 : pc (aw n h s k) ≤ pc k := by omega
        simp [aw, awT, c1, c2]
    · have ha := aw_lt n h s 64 (by omega)
      show wb_X8_away_5 now post (fun a u v w => K (a, u, v, w)) lt (awT n h s d 64) (nI (aw n h s 64)) (nI 64) = _
      simp (disch := omega) only [wb_X8_away_5, z64, q_le, e_mbits, wp_X8_answer]
      simp
  have e64 : aw n h s 64 = aw n h s 63 := by
    have h1 := pc64 _ (aw_lt n h s 63 (by omega))
    have h2 : pc 63 = 6 := by decide
    have h3 : ¬ pc 63 < pc (aw n h s 63) := by omega
    show (if pc 63 < pc (aw n h s 63) then (if rgS n h s 63 = 0 then 63 else aw n h s 63) else aw n h s 63) = aw n h s 63
    rw [if_neg h3]
  have ha := aw_lt n h s 63 (by omega)
  simp (disch := omega) only [wp_X7_away, k7, e_bc, k8, e64]
  simp
end HE6
