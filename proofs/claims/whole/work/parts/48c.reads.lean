/-! reading a whole TEXT -/
theorem bits_up : ∀ n, n < 12 → (2 ^ n - 1) ||| 2 ^ n = 2 ^ (n + 1) - 1 := by decide
theorem e_zero (tS tw : Nat → Int32) (t : Int32) (rd : Nat → Int32) (at_ : Int32) (post : Int32 → (Nat → Int32) → Int32 → Prop) : wp_X8_reads tS tw rd at_ t post = ∃ zn, wl_X8_reads_26 tS tw t post zn (fun j => if j < 115 then 0 else rd j) 0 := by
  unfold wp_X8_reads
  have e0 : (fun j => if j < 0 then (0 : Int32) else rd j) = rd := by funext j; simp
  have z115 : (115 : Int32) = nI 115 := rfl
  have q := lpG (σ := (Nat → Int32) × Int32 × Int32) (fun K x => wb_X8_reads_2 tS tw t post (fun a b c => K (a, b, c)) x.1 x.2.1 x.2.2) (fun z x => wl_X8_reads_2 tS tw t post z x.1 x.2.1 x.2.2) (fun _ => rfl) (fun _ _ => rfl) 115 (fun k => ((fun j => if j < k then (0 : Int32) else rd j), at_, nI k)) (∃ zn, wl_X8_reads_26 tS tw t post zn (fun j => if j < 115 then 0 else rd j) 0) ?_ ?_
  · simp only [e0] at q
    exact q
  · intro k K hk
    have c : ¬ 115 ≤ k := by omega
    show wb_X8_reads_2 tS tw t post (fun a b c => K (a, b, c)) (fun j => if j < k then (0 : Int32) else rd j) at_ (nI k) = K ((fun j => if j < k + 1 then (0 : Int32) else rd j), at_, nI (k + 1))
    have e1 : upd (fun j => if j < k then (0 : Int32) else rd j) k 0 = fun j => if j < k + 1 then (0 : Int32) else rd j := by
      funext j
      show (if j = k then (0 : Int32) else (if j < k then 0 else rd j)) = if j < k + 1 then 0 else rd j
      by_cases h1 : j = k
      · rw [if_pos h1, if_pos (by omega)]
      · rw [if_neg h1]
        by_cases h2 : j < k
        · rw [if_pos h2, if_pos (by omega)]
        · rw [if_neg h2, if_neg (by omega)]
    simp (disch := omega) only [wb_X8_reads_2, z115, q_le, c, q_in, q_cl, nI_1, e1]
    simp
  · intro K
    show wb_X8_reads_2 tS tw t post (fun a b c => K (a, b, c)) _ at_ (nI 115) = _
    simp (disch := omega) only [wb_X8_reads_2, z115, q_le]
    simp
section RA
variable {m : Nat → Nat} {ts tc tS tw : Nat → Int32} {t q : Nat}
/-- what is left behind: nothing is known of it, but of a TEXT without a FAULT -/
def RdE (a : Int32) (kinds whos toWhoms topics weights answered rd : Nat → Int32) (n : Nat) : Prop := (∃ f, f < 1000 ∧ a = nI f) ∨ (a = -9 ∧ ∃ h, HR kinds whos toWhoms topics weights answered n h ∧ MH rd n h ∧ HW n h ∧ rd 1 = 0 ∧ rd 2 = nI (2 ^ n - 1))
theorem e_loop (hS : SH 4 80 m ts tc tS tw) (ht : t < 4) (hm : m t = q + 1) (hq : q ≤ 80) : ∀ N p n h (kinds whos toWhoms topics weights answered rd : Nat → Int32), q - p < N → p ≤ q → RdL kinds whos toWhoms topics weights answered rd n h →
    ∃ (a : Int32) (k' w' o' g' e' r' rd' : Nat → Int32) (n' : Nat) (at' : Int32), RdE a k' w' o' g' e' r' rd' n' ∧ (∀ post, (∃ zn, wl_X3_readInto_13 4 320 (nI 80) ts tc (nI t) post zn kinds whos toWhoms topics weights answered (nI n) (nI (2 ^ n - 1)) 0 (nI q) (nI p)) = post a k' w' o' g' e' r' (nI n') (nI (2 ^ n' - 1)) 0) ∧ (∀ post, (∃ zn, wl_X8_reads_26 tS tw (nI t) post zn rd (nI p)) = post a rd' at') := by
  obtain ⟨sa, sb, sc, sd⟩ := hS t ht
  rw [hm] at sa sc sd
  have sc' : tS t = nI q := sc
  intro N
  induction N with
  | zero => intro p n h kinds whos toWhoms topics weights answered rd h1; omega
  | succ N ih =>
    intro p n h kinds whos toWhoms topics weights answered rd h1 h2 hL
    have hn := hL.2.2.1.1
    have r0 : rd 0 = nI n := hL.2.1.1
    by_cases hp : p = q
    · subst hp
      have c := Nat.one_le_two_pow (n := n)
      have c2 : 2 ^ n ≤ 2 ^ 12 := Nat.pow_le_pow_right (by decide) hn
      have ep : nI (2 ^ n) - 1 = nI (2 ^ n - 1) := pk_sub (a := 2 ^ n) (b := 1) c
      refine ⟨-9, kinds, whos, toWhoms, topics, weights, answered, upd rd 2 (nI (2 ^ n - 1)), n, nI p, Or.inr ⟨rfl, h, hL.1, hL.2.1.up hn (Or.inr (Or.inl rfl)), hL.2.2.1, by rw [q_up (by omega)]; exact hL.2.2.2, q_us⟩, fun post => ?_, fun post => ?_⟩
      · refine lp_en (σ := (Nat → Int32) × (Nat → Int32) × (Nat → Int32) × (Nat → Int32) × (Nat → Int32) × (Nat → Int32) × Int32 × Int32 × Int32 × Int32 × Int32) (fun K x => wb_X3_readInto_13 4 320 (nI 80) ts tc (nI t) post (fun a b c d e f g i j k o => K (a, b, c, d, e, f, g, i, j, k, o)) x.1 x.2.1 x.2.2.1 x.2.2.2.1 x.2.2.2.2.1 x.2.2.2.2.2.1 x.2.2.2.2.2.2.1 x.2.2.2.2.2.2.2.1 x.2.2.2.2.2.2.2.2.1 x.2.2.2.2.2.2.2.2.2.1 x.2.2.2.2.2.2.2.2.2.2) (fun z x => wl_X3_readInto_13 4 320 (nI 80) ts tc (nI t) post z x.1 x.2.1 x.2.2.1 x.2.2.2.1 x.2.2.2.2.1 x.2.2.2.2.2.1 x.2.2.2.2.2.2.1 x.2.2.2.2.2.2.2.1 x.2.2.2.2.2.2.2.2.1 x.2.2.2.2.2.2.2.2.2.1 x.2.2.2.2.2.2.2.2.2.2) (fun _ => rfl) (fun _ _ => rfl) (x := (kinds, whos, toWhoms, topics, weights, answered, nI n, nI (2 ^ n - 1), 0, nI p, nI p)) (fun K => ?_)
        show wb_X3_readInto_13 4 320 (nI 80) ts tc (nI t) post (fun a b c d e f g i j k o => K (a, b, c, d, e, f, g, i, j, k, o)) kinds whos toWhoms topics weights answered (nI n) (nI (2 ^ n - 1)) 0 (nI p) (nI p) = _
        simp (disch := omega) only [wb_X3_readInto_13, q_le]
        simp
      · refine lp_en (σ := (Nat → Int32) × Int32) (fun K x => wb_X8_reads_26 tS tw (nI t) post (fun a b => K (a, b)) x.1 x.2) (fun z x => wl_X8_reads_26 tS tw (nI t) post z x.1 x.2) (fun _ => rfl) (fun _ _ => rfl) (x := (rd, nI p)) (fun K => ?_)
        show wb_X8_reads_26 tS tw (nI t) post (fun a b => K (a, b)) rd (nI p) = _
        simp (disch := omega) only [wb_X8_reads_26, q_in, q_cl, sc', q_le, r0, q_shl, ep]
        simp
    · have hpq : p < q := by omega
      have nle : ¬ q ≤ p := by omega
      have eC : tc (80 * t + p) = xM tw t q p := by rw [sd p (by omega)]; exact (if_pos hpq).symm
      have B0 : ∀ post, wp_X8_byteAt tS tw (nI p) (nI t) post = post (xM tw t q p) := fun post => e_byte hS ht hm (by omega) post
      by_cases h32 : xM tw t q p = 32
      · obtain ⟨a, k', w', o', g', e', r', rd', n', at', hE, hC, hMo⟩ := ih (p + 1) n h kinds whos toWhoms topics weights answered rd (by omega) (by omega) hL
        refine ⟨a, k', w', o', g', e', r', rd', n', at', hE, fun post => ?_, fun post => ?_⟩
        · rw [← hC post]
          refine lp_st (σ := (Nat → Int32) × (Nat → Int32) × (Nat → Int32) × (Nat → Int32) × (Nat → Int32) × (Nat → Int32) × Int32 × Int32 × Int32 × Int32 × Int32) (fun K x => wb_X3_readInto_13 4 320 (nI 80) ts tc (nI t) post (fun a b c d e f g i j k o => K (a, b, c, d, e, f, g, i, j, k, o)) x.1 x.2.1 x.2.2.1 x.2.2.2.1 x.2.2.2.2.1 x.2.2.2.2.2.1 x.2.2.2.2.2.2.1 x.2.2.2.2.2.2.2.1 x.2.2.2.2.2.2.2.2.1 x.2.2.2.2.2.2.2.2.2.1 x.2.2.2.2.2.2.2.2.2.2) (fun z x => wl_X3_readInto_13 4 320 (nI 80) ts tc (nI t) post z x.1 x.2.1 x.2.2.1 x.2.2.2.1 x.2.2.2.2.1 x.2.2.2.2.2.1 x.2.2.2.2.2.2.1 x.2.2.2.2.2.2.2.1 x.2.2.2.2.2.2.2.2.1 x.2.2.2.2.2.2.2.2.2.1 x.2.2.2.2.2.2.2.2.2.2) (fun _ => rfl) (fun _ _ => rfl) (x := (kinds, whos, toWhoms, topics, weights, answered, nI n, nI (2 ^ n - 1), 0, nI q, nI p)) (y := (kinds, whos, toWhoms, topics, weights, answered, nI n, nI (2 ^ n - 1), 0, nI q, nI (p + 1))) (fun K => ?_)
          show wb_X3_readInto_13 4 320 (nI 80) ts tc (nI t) post (fun a b c d e f g i j k o => K (a, b, c, d, e, f, g, i, j, k, o)) kinds whos toWhoms topics weights answered (nI n) (nI (2 ^ n - 1)) 0 (nI q) (nI p) = K (kinds, whos, toWhoms, topics, weights, answered, nI n, nI (2 ^ n - 1), 0, nI q, nI (p + 1))
          simp (disch := omega) only [wb_X3_readInto_13, q_le, nle, e5_cell, eC, h32, nI_1]
          simp
        · rw [← hMo post]
          refine lp_st (σ := (Nat → Int32) × Int32) (fun K x => wb_X8_reads_26 tS tw (nI t) post (fun a b => K (a, b)) x.1 x.2) (fun z x => wl_X8_reads_26 tS tw (nI t) post z x.1 x.2) (fun _ => rfl) (fun _ _ => rfl) (x := (rd, nI p)) (y := (rd, nI (p + 1))) (fun K => ?_)
          show wb_X8_reads_26 tS tw (nI t) post (fun a b => K (a, b)) rd (nI p) = K (rd, nI (p + 1))
          simp (disch := omega) only [wb_X8_reads_26, q_in, q_cl, sc', q_le, nle, B0, h32, nI_1]
          simp
      · rcases e_item (s := 2 ^ n - 1) hS ht hm hL hpq hq with ⟨k, rd1, hk, hC, hMo⟩ | ⟨n12, hp6, v, hv, hC, hMo⟩
        · have ne9 : ¬ nI (p + k) = -9 := fun z => nI_pos (n := p + k) (by omega) (by rw [z]; decide)
          refine ⟨nI (p + k), kinds, whos, toWhoms, topics, weights, answered, rd1, n, nI (p + k), Or.inl ⟨p + k, by omega, rfl⟩, fun post => ?_, fun post => ?_⟩
          · refine lp_en (σ := (Nat → Int32) × (Nat → Int32) × (Nat → Int32) × (Nat → Int32) × (Nat → Int32) × (Nat → Int32) × Int32 × Int32 × Int32 × Int32 × Int32) (fun K x => wb_X3_readInto_13 4 320 (nI 80) ts tc (nI t) post (fun a b c d e f g i j k o => K (a, b, c, d, e, f, g, i, j, k, o)) x.1 x.2.1 x.2.2.1 x.2.2.2.1 x.2.2.2.2.1 x.2.2.2.2.2.1 x.2.2.2.2.2.2.1 x.2.2.2.2.2.2.2.1 x.2.2.2.2.2.2.2.2.1 x.2.2.2.2.2.2.2.2.2.1 x.2.2.2.2.2.2.2.2.2.2) (fun z x => wl_X3_readInto_13 4 320 (nI 80) ts tc (nI t) post z x.1 x.2.1 x.2.2.1 x.2.2.2.1 x.2.2.2.2.1 x.2.2.2.2.2.1 x.2.2.2.2.2.2.1 x.2.2.2.2.2.2.2.1 x.2.2.2.2.2.2.2.2.1 x.2.2.2.2.2.2.2.2.2.1 x.2.2.2.2.2.2.2.2.2.2) (fun _ => rfl) (fun _ _ => rfl) (x := (kinds, whos, toWhoms, topics, weights, answered, nI n, nI (2 ^ n - 1), 0, nI q, nI p)) (fun K => ?_)
            show wb_X3_readInto_13 4 320 (nI 80) ts tc (nI t) post (fun a b c d e f g i j k o => K (a, b, c, d, e, f, g, i, j, k, o)) kinds whos toWhoms topics weights answered (nI n) (nI (2 ^ n - 1)) 0 (nI q) (nI p) = _
            simp (disch := omega) only [wb_X3_readInto_13, q_le, nle, e5_cell, eC, h32, hC, ne9]
            simp
          · refine lp_en (σ := (Nat → Int32) × Int32) (fun K x => wb_X8_reads_26 tS tw (nI t) post (fun a b => K (a, b)) x.1 x.2) (fun z x => wl_X8_reads_26 tS tw (nI t) post z x.1 x.2) (fun _ => rfl) (fun _ _ => rfl) (x := (rd, nI p)) (fun K => ?_)
            show wb_X8_reads_26 tS tw (nI t) post (fun a b => K (a, b)) rd (nI p) = _
            simp (disch := omega) only [wb_X8_reads_26, q_in, q_cl, sc', q_le, nle, B0, h32, hMo]
            simp
        · have hb : (2 ^ n - 1) ||| 2 ^ n = 2 ^ (n + 1) - 1 := bits_up n n12
          obtain ⟨a, k', w', o', g', e', r', rd', n', at', hE, hC2, hMo2⟩ := ih (p + 6) (n + 1) (hN h n v) _ _ _ _ _ _ _ (by omega) hp6 (hL.add n12 hv)
          refine ⟨a, k', w', o', g', e', r', rd', n', at', hE, fun post => ?_, fun post => ?_⟩
          · rw [← hC2 post]
            refine lp_st (σ := (Nat → Int32) × (Nat → Int32) × (Nat → Int32) × (Nat → Int32) × (Nat → Int32) × (Nat → Int32) × Int32 × Int32 × Int32 × Int32 × Int32) (fun K x => wb_X3_readInto_13 4 320 (nI 80) ts tc (nI t) post (fun a b c d e f g i j k o => K (a, b, c, d, e, f, g, i, j, k, o)) x.1 x.2.1 x.2.2.1 x.2.2.2.1 x.2.2.2.2.1 x.2.2.2.2.2.1 x.2.2.2.2.2.2.1 x.2.2.2.2.2.2.2.1 x.2.2.2.2.2.2.2.2.1 x.2.2.2.2.2.2.2.2.2.1 x.2.2.2.2.2.2.2.2.2.2) (fun z x => wl_X3_readInto_13 4 320 (nI 80) ts tc (nI t) post z x.1 x.2.1 x.2.2.1 x.2.2.2.1 x.2.2.2.2.1 x.2.2.2.2.2.1 x.2.2.2.2.2.2.1 x.2.2.2.2.2.2.2.1 x.2.2.2.2.2.2.2.2.1 x.2.2.2.2.2.2.2.2.2.1 x.2.2.2.2.2.2.2.2.2.2) (fun _ => rfl) (fun _ _ => rfl) (x := (kinds, whos, toWhoms, topics, weights, answered, nI n, nI (2 ^ n - 1), 0, nI q, nI p)) (y := (upd kinds n (nI (v 0)), upd whos n (nI (v 1)), upd toWhoms n (nI (v 2)), upd topics n (nI (v 3)), upd weights n (nI (v 4)), upd answered n (ansI (v 5)), nI (n + 1), nI (2 ^ (n + 1) - 1), 0, nI q, nI (p + 6))) (fun K => ?_)
            show wb_X3_readInto_13 4 320 (nI 80) ts tc (nI t) post (fun a b c d e f g i j k o => K (a, b, c, d, e, f, g, i, j, k, o)) kinds whos toWhoms topics weights answered (nI n) (nI (2 ^ n - 1)) 0 (nI q) (nI p) = K (upd kinds n (nI (v 0)), upd whos n (nI (v 1)), upd toWhoms n (nI (v 2)), upd topics n (nI (v 3)), upd weights n (nI (v 4)), upd answered n (ansI (v 5)), nI (n + 1), nI (2 ^ (n + 1) - 1), 0, nI q, nI (p + 6))
            simp (disch := omega) only [wb_X3_readInto_13, q_le, nle, e5_cell, eC, h32, hC, ad6, hb]
            simp
          · rw [← hMo2 post]
            refine lp_st (σ := (Nat → Int32) × Int32) (fun K x => wb_X8_reads_26 tS tw (nI t) post (fun a b => K (a, b)) x.1 x.2) (fun z x => wl_X8_reads_26 tS tw (nI t) post z x.1 x.2) (fun _ => rfl) (fun _ _ => rfl) (x := (rd, nI p)) (y := (rdN rd n v, nI (p + 6))) (fun K => ?_)
            show wb_X8_reads_26 tS tw (nI t) post (fun a b => K (a, b)) rd (nI p) = K (rdN rd n v, nI (p + 6))
            simp (disch := omega) only [wb_X8_reads_26, q_in, q_cl, sc', q_le, nle, B0, h32, hMo]
            simp
/-- the two readings -/
theorem e_read (hS : SH 4 80 m ts tc tS tw) (ht : t < 4) (hm : m t = q + 1) (kinds whos toWhoms topics weights answered rd : Nat → Int32) (at_ : Int32) :
    ∃ (a : Int32) (k' w' o' g' e' r' rd' : Nat → Int32) (n' : Nat) (at' : Int32), RdE a k' w' o' g' e' r' rd' n' ∧ (∀ post, wp_X3_readInto kinds whos toWhoms topics weights answered 4 320 (nI 80) ts tc (nI t) post = post a k' w' o' g' e' r' (nI n') (nI (2 ^ n' - 1)) 0) ∧ (∀ post, wp_X8_reads tS tw rd at_ (nI t) post = post a rd' at') := by
  obtain ⟨sa, sb, sc, sd⟩ := hS t ht
  rw [hm] at sa sb
  have sb' : ts t = nI q := sb
  obtain ⟨a, k', w', o', g', e', r', rd', n', at', hE, hC, hMo⟩ := e_loop hS ht hm (by omega) (q - 0 + 1) 0 0 (fun _ _ => 0) kinds whos toWhoms topics weights answered (fun j => if j < 115 then 0 else rd j) (by omega) (by omega) ⟨fun j hj => by omega, ⟨rfl, fun j hj => by omega⟩, ⟨by omega, fun j hj => by omega⟩, rfl⟩
  refine ⟨a, k', w', o', g', e', r', rd', n', at', hE, fun post => ?_, fun post => ?_⟩
  · rw [← hC post]
    simp (disch := omega) only [wp_X3_readInto, wp_X1_empty, wp_X5_sizeOf, q_in, q_cl, sb']
    simp
    rfl
  · rw [e_zero]
    exact hMo post
end RA
