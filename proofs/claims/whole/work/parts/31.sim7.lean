/-! judge -/
section HE5
variable {kinds whos toWhoms topics weights answered now : Nat → Int32} {n s : Nat} {h : Nat → Nat → Nat}
/-- what is answered and told when e is judged from place k on, d places still to come -/
def jR (n : Nat) (h : Nat → Nat → Nat) (e : Nat → Nat) : Nat → Nat → Nat → Int32 → Int32 × Int32
  | 0, k, t, c => (if t = 0 then c else -9, nI k)
  | d + 1, k, t, c => if mayS n h t (e k) then jR n h e d (k + 1) (clr t (e k)) (c + nI (priceS n h t (e k))) else (-9, nI k)
theorem e_judge2 (hR : HR kinds whos toWhoms topics weights answered n h) (hW : HW n h) {r q : Nat} (hr : r < 6) (hq : q ≤ 40) {rc : Nat → Int32} {e : Nat → Nat} (he : ∀ i, i < q → rc (40 * r + i) = nI (e i) ∧ e i < n) (lt la : Int32) (of : Nat → Int32) (post : Int32 → Int32 → (Nat → Int32) → Int32 → Prop) : ∀ d k t c, k + d = q → t < 4096 → (∃ zn, wl_X7_judge_84 240 (nI 40) rc kinds whos toWhoms topics weights answered (nI n) (nI r) post zn lt of la (nI q) (nI t) c (nI k)) = post (jR n h e d k t c).1 (jR n h e d k t c).2 of la := by
  have hn := hW.1
  intro d
  induction d with
  | zero =>
    intro k t c hk ht
    have hk : k = q := by omega
    subst hk
    refine lp_en (σ := Int32 × (Nat → Int32) × Int32 × Int32 × Int32 × Int32 × Int32) (fun K x => wb_X7_judge_84 240 (nI 40) rc kinds whos toWhoms topics weights answered (nI n) (nI r) post (fun a b c d e f g => K (a, b, c, d, e, f, g)) x.1 x.2.1 x.2.2.1 x.2.2.2.1 x.2.2.2.2.1 x.2.2.2.2.2.1 x.2.2.2.2.2.2) (fun z x => wl_X7_judge_84 240 (nI 40) rc kinds whos toWhoms topics weights answered (nI n) (nI r) post z x.1 x.2.1 x.2.2.1 x.2.2.2.1 x.2.2.2.2.1 x.2.2.2.2.2.1 x.2.2.2.2.2.2) (fun _ => rfl) (fun _ _ => rfl) (x := (lt, of, la, nI k, nI t, c, nI k)) (fun K => ?_)
    show wb_X7_judge_84 240 (nI 40) rc kinds whos toWhoms topics weights answered (nI n) (nI r) post (fun a b c d e f g => K (a, b, c, d, e, f, g)) lt of la (nI k) (nI t) c (nI k) = _
    simp (disch := omega) only [wb_X7_judge_84, q_le, wb_X7_judge_158, z_0, q_eq]
    by_cases h0 : t = 0 <;> simp [jR, h0]
  | succ d ih =>
    intro k t c hk ht
    have hkq : k < q := by omega
    have nk : ¬ q ≤ k := by omega
    have nq : ¬ k = q := by omega
    obtain ⟨e1, e2⟩ := he k hkq
    have hc : clr t (e k) < 4096 := clr_lt (n := 12) ht
    cases hm : mayS n h t (e k) with
    | false =>
      refine lp_en (σ := Int32 × (Nat → Int32) × Int32 × Int32 × Int32 × Int32 × Int32) (fun K x => wb_X7_judge_84 240 (nI 40) rc kinds whos toWhoms topics weights answered (nI n) (nI r) post (fun a b c d e f g => K (a, b, c, d, e, f, g)) x.1 x.2.1 x.2.2.1 x.2.2.2.1 x.2.2.2.2.1 x.2.2.2.2.2.1 x.2.2.2.2.2.2) (fun z x => wl_X7_judge_84 240 (nI 40) rc kinds whos toWhoms topics weights answered (nI n) (nI r) post z x.1 x.2.1 x.2.2.1 x.2.2.2.1 x.2.2.2.2.1 x.2.2.2.2.2.1 x.2.2.2.2.2.2) (fun _ => rfl) (fun _ _ => rfl) (x := (lt, of, la, nI q, nI t, c, nI k)) (fun K => ?_)
      show wb_X7_judge_84 240 (nI 40) rc kinds whos toWhoms topics weights answered (nI n) (nI r) post (fun a b c d e f g => K (a, b, c, d, e, f, g)) lt of la (nI q) (nI t) c (nI k) = _
      simp (disch := omega) only [wb_X7_judge_84, q_le, nk, e5_cell, e1, e_mayGo hR hW e2 ht, hm, wb_X7_judge_158, q_eq, nq]
      simp [jR, hm]
    | true =>
      have st : jR n h e (d + 1) k t c = jR n h e d (k + 1) (clr t (e k)) (c + nI (priceS n h t (e k))) := by simp [jR, hm]
      rw [st, ← ih (k + 1) (clr t (e k)) (c + nI (priceS n h t (e k))) (by omega) hc]
      refine lp_st (σ := Int32 × (Nat → Int32) × Int32 × Int32 × Int32 × Int32 × Int32) (fun K x => wb_X7_judge_84 240 (nI 40) rc kinds whos toWhoms topics weights answered (nI n) (nI r) post (fun a b c d e f g => K (a, b, c, d, e, f, g)) x.1 x.2.1 x.2.2.1 x.2.2.2.1 x.2.2.2.2.1 x.2.2.2.2.2.1 x.2.2.2.2.2.2) (fun z x => wl_X7_judge_84 240 (nI 40) rc kinds whos toWhoms topics weights answered (nI n) (nI r) post z x.1 x.2.1 x.2.2.1 x.2.2.2.1 x.2.2.2.2.1 x.2.2.2.2.2.1 x.2.2.2.2.2.2) (fun _ => rfl) (fun _ _ => rfl) (x := (lt, of, la, nI q, nI t, c, nI k)) (y := (lt, of, la, nI q, nI (clr t (e k)), c + nI (priceS n h t (e k)), nI (k + 1))) (fun K => ?_)
      show wb_X7_judge_84 240 (nI 40) rc kinds whos toWhoms topics weights answered (nI n) (nI r) post (fun a b c d e f g => K (a, b, c, d, e, f, g)) lt of la (nI q) (nI t) c (nI k) = K (lt, of, la, nI q, nI (clr t (e k)), c + nI (priceS n h t (e k)), nI (k + 1))
      simp (disch := omega) only [wb_X7_judge_84, q_le, nk, e5_cell, e1, e_mayGo hR hW e2 ht, hm, e_priceAmong hR hW e2, e_bit, q_nd, nI_1]
      simp [clr]
theorem e_mjudge2 (hM : MH now n h) (hW : HW n h) {r q : Nat} (hr : r < 6) (hq : q ≤ 40) {rw : Nat → Int32} {e : Nat → Nat} (he : ∀ i, i < q → rw (40 * r + i) = nI (e i) ∧ e i < n) (as fi : Int32) (fs : Nat → Int32) (post : Int32 → Int32 → Int32 → (Nat → Int32) → Prop) : ∀ d k t c, k + d = q → t < 4096 → (∃ zn, wl_X8_judge_76 rw now (nI r) post zn as fi fs (nI q) (nI t) c (nI k)) = post (jR n h e d k t c).1 (jR n h e d k t c).2 fi fs := by
  have hn := hW.1
  intro d
  induction d with
  | zero =>
    intro k t c hk ht
    have hk : k = q := by omega
    subst hk
    refine lp_en (σ := Int32 × Int32 × (Nat → Int32) × Int32 × Int32 × Int32 × Int32) (fun K x => wb_X8_judge_76 rw now (nI r) post (fun a b c d e f g => K (a, b, c, d, e, f, g)) x.1 x.2.1 x.2.2.1 x.2.2.2.1 x.2.2.2.2.1 x.2.2.2.2.2.1 x.2.2.2.2.2.2) (fun z x => wl_X8_judge_76 rw now (nI r) post z x.1 x.2.1 x.2.2.1 x.2.2.2.1 x.2.2.2.2.1 x.2.2.2.2.2.1 x.2.2.2.2.2.2) (fun _ => rfl) (fun _ _ => rfl) (x := (as, fi, fs, nI k, nI t, c, nI k)) (fun K => ?_)
    show wb_X8_judge_76 rw now (nI r) post (fun a b c d e f g => K (a, b, c, d, e, f, g)) as fi fs (nI k) (nI t) c (nI k) = _
    simp (disch := omega) only [wb_X8_judge_76, q_le, wb_X8_judge_143, wb_X8_judge_159, wb_X8_judge_161, wp_X8_answer, z_0, q_eq]
    by_cases h0 : t = 0 <;> simp [jR, h0]
  | succ d ih =>
    intro k t c hk ht
    have hkq : k < q := by omega
    have nk : ¬ q ≤ k := by omega
    have nq : ¬ k = q := by omega
    obtain ⟨e1, e2⟩ := he k hkq
    have hc : clr t (e k) < 4096 := clr_lt (n := 12) ht
    cases hm : mayS n h t (e k) with
    | false =>
      refine lp_en (σ := Int32 × Int32 × (Nat → Int32) × Int32 × Int32 × Int32 × Int32) (fun K x => wb_X8_judge_76 rw now (nI r) post (fun a b c d e f g => K (a, b, c, d, e, f, g)) x.1 x.2.1 x.2.2.1 x.2.2.2.1 x.2.2.2.2.1 x.2.2.2.2.2.1 x.2.2.2.2.2.2) (fun z x => wl_X8_judge_76 rw now (nI r) post z x.1 x.2.1 x.2.2.1 x.2.2.2.1 x.2.2.2.2.1 x.2.2.2.2.2.1 x.2.2.2.2.2.2) (fun _ => rfl) (fun _ _ => rfl) (x := (as, fi, fs, nI q, nI t, c, nI k)) (fun K => ?_)
      show wb_X8_judge_76 rw now (nI r) post (fun a b c d e f g => K (a, b, c, d, e, f, g)) as fi fs (nI q) (nI t) c (nI k) = _
      simp (disch := omega) only [wb_X8_judge_76, q_le, nk, z_40, pk_mul, nI_add, q_in, q_cl, e1, e_mayBe hM hW e2 ht, hm, wb_X8_judge_143, wb_X8_judge_159, wb_X8_judge_161, wp_X8_answer, q_eq, nq]
      simp [jR, hm]
    | true =>
      have st : jR n h e (d + 1) k t c = jR n h e d (k + 1) (clr t (e k)) (c + nI (priceS n h t (e k))) := by simp [jR, hm]
      rw [st, ← ih (k + 1) (clr t (e k)) (c + nI (priceS n h t (e k))) (by omega) hc]
      refine lp_st (σ := Int32 × Int32 × (Nat → Int32) × Int32 × Int32 × Int32 × Int32) (fun K x => wb_X8_judge_76 rw now (nI r) post (fun a b c d e f g => K (a, b, c, d, e, f, g)) x.1 x.2.1 x.2.2.1 x.2.2.2.1 x.2.2.2.2.1 x.2.2.2.2.2.1 x.2.2.2.2.2.2) (fun z x => wl_X8_judge_76 rw now (nI r) post z x.1 x.2.1 x.2.2.1 x.2.2.2.1 x.2.2.2.2.1 x.2.2.2.2.2.1 x.2.2.2.2.2.2) (fun _ => rfl) (fun _ _ => rfl) (x := (as, fi, fs, nI q, nI t, c, nI k)) (y := (as, fi, fs, nI q, nI (clr t (e k)), c + nI (priceS n h t (e k)), nI (k + 1))) (fun K => ?_)
      show wb_X8_judge_76 rw now (nI r) post (fun a b c d e f g => K (a, b, c, d, e, f, g)) as fi fs (nI q) (nI t) c (nI k) = K (as, fi, fs, nI q, nI (clr t (e k)), c + nI (priceS n h t (e k)), nI (k + 1))
      simp (disch := omega) only [wb_X8_judge_76, q_le, nk, z_40, pk_mul, nI_add, q_in, q_cl, e1, e_mayBe hM hW e2 ht, hm, e_mprice hM hW e2 ht, q_sh, q_nd, nI_1]
      simp [clr]
theorem s_judge (hR : HR kinds whos toWhoms topics weights answered n h) (hM : MH now n h) (hW : HW n h) (hs : s < 4096) (hs2 : now 2 = nI s) {m : Nat → Nat} {rs rc rS rw of fs : Nat → Int32} {la fi : Int32} (hS : SH 6 40 m rs rc rS rw) (hT : TL of la fs fi) (lt r : Int32) : wp_X7_judge lt 6 240 (nI 40) rs rc kinds whos toWhoms topics weights answered (nI n) (nI s) of la r (fun a lt' of' la' => wp_X8_judge rS rw now lt fi fs r (fun a' as' fi' fs' => a = a' ∧ lt' = as' ∧ TL of' la' fs' fi')) := by
  have hn := hW.1
  rcases pk_ix r (n := 6) (by decide) with hr | hr | ⟨r, hr, rfl⟩
  · simp only [wp_X7_judge, e7_bad (Or.inl hr), wp_X8_judge, e8_rowN (Or.inl hr), n_m1]
    simp [hT]
  · simp only [wp_X7_judge, e7_bad (Or.inr hr), wp_X8_judge, e8_rowN (Or.inr hr), n_m1]
    simp [hT]
  obtain ⟨a, b, c, d⟩ := hS r hr
  cases hm : m r with
  | zero =>
    rw [hm] at b c
    simp (disch := omega) only [wp_X7_judge, e7_miss hr (by decide) b, wp_X8_judge, e8_rowY, q_in, q_cl, c, q_szp, n_m3, n_1, show (1 : Int32) = nI 1 from rfl, e8_found]
    simp [show nI 1 = 1 from rfl]
    exact hT.note (f := 1) (by omega) (by omega)
  | succ q =>
    rw [hm] at a b c d
    have hq : q ≤ 40 := by omega
    have n0 : ((0 : Int32) = 0) = True := by simp
    simp (disch := omega) only [wp_X7_judge, e7_is hr (by decide) (show q < 2 ^ 30 by omega) b, wp_X8_judge, e8_rowY hr, q_in, q_cl, c, q_szp, n_1, wp_X5_sizeOf, b]
    simp only [show szI (q + 1) = nI q from rfl]
    have P7 : ∀ post : Int32 → Int32 → (Nat → Int32) → Int32 → Prop, ∀ i, i < q → (∃ j, j < n ∧ rc (40 * r + i) = nI j) → ∀ K, wb_X7_judge_28 240 (nI 40) rc kinds whos toWhoms topics weights answered (nI n) (nI s) (nI r) post K lt of la (nI q) (nI i) = K lt of la (nI q) (nI (i + 1)) := by
      intro post i hi ⟨j, hj, e⟩ K
      have nk : ¬ q ≤ i := by omega
      simp (disch := omega) only [wb_X7_judge_28, q_le, nk, e5_cell, e, e_hasNum, if_pos hj, nI_1, n_1]
      simp
    have P8 : ∀ post : Int32 → Int32 → Int32 → (Nat → Int32) → Prop, ∀ i, i < q → (∃ j, j < n ∧ rw (40 * r + i) = nI j) → ∀ K, wb_X8_judge_28 rw now (nI r) post K lt fi fs (nI q) (nI i) = K lt fi fs (nI q) (nI (i + 1)) := by
      intro post i hi ⟨j, hj, e⟩ K
      have nk : ¬ q ≤ i := by omega
      simp (disch := omega) only [wb_X8_judge_28, q_le, nk, z_40, pk_mul, nI_add, q_in, q_cl, e, e_isSayingY hM hW hj, nI_1, n_1]
      simp
    rcases least (fun i => ∃ j, j < n ∧ rc (40 * r + i) = nI j) q with hall | ⟨i0, h1, h2, h3⟩
    · have he : ∃ e : Nat → Nat, ∀ i, i < q → rc (40 * r + i) = nI (e i) ∧ e i < n := by
        refine ⟨fun i => (rc (40 * r + i)).toNatClampNeg, fun i hi => ?_⟩
        obtain ⟨j, hj, e⟩ := hall i hi
        have := q_cl (a := j) (by omega)
        show _ = nI (rc (40 * r + i)).toNatClampNeg ∧ (rc (40 * r + i)).toNatClampNeg < n
        rw [e, this]; exact ⟨rfl, hj⟩
      obtain ⟨e, he⟩ := he
      have he8 : ∀ i, i < q → rw (40 * r + i) = nI (e i) ∧ e i < n := fun i hi => by
        rw [← d i (by omega)]; exact he i hi
      have k7 : ∀ post : Int32 → Int32 → (Nat → Int32) → Int32 → Prop, (∃ zn, wl_X7_judge_28 240 (nI 40) rc kinds whos toWhoms topics weights answered (nI n) (nI s) (nI r) post zn lt of la (nI q) 0) = post (jR n h e q 0 s 0).1 (jR n h e q 0 s 0).2 of la := by
        intro post
        refine lpG (σ := Int32 × (Nat → Int32) × Int32 × Int32 × Int32) (fun K x => wb_X7_judge_28 240 (nI 40) rc kinds whos toWhoms topics weights answered (nI n) (nI s) (nI r) post (fun a b c d e => K (a, b, c, d, e)) x.1 x.2.1 x.2.2.1 x.2.2.2.1 x.2.2.2.2) (fun z x => wl_X7_judge_28 240 (nI 40) rc kinds whos toWhoms topics weights answered (nI n) (nI s) (nI r) post z x.1 x.2.1 x.2.2.1 x.2.2.2.1 x.2.2.2.2) (fun _ => rfl) (fun _ _ => rfl) q (fun k => (lt, of, la, nI q, nI k)) _ (fun k K hk => P7 post k hk (hall k hk) _) (fun K => ?_)
        have w := e_judge2 hR hW hr hq he lt la of post q 0 s 0 (by omega) hs
        show wb_X7_judge_28 240 (nI 40) rc kinds whos toWhoms topics weights answered (nI n) (nI s) (nI r) post (fun a b c d e => K (a, b, c, d, e)) lt of la (nI q) (nI q) = _
        simp (disch := omega) only [wb_X7_judge_28, q_le, wp_X1_saidBits]
        rw [show nI 0 = 0 from rfl] at w
        simp [w]
      have k8 : ∀ post : Int32 → Int32 → Int32 → (Nat → Int32) → Prop, (∃ zn, wl_X8_judge_28 rw now (nI r) post zn lt fi fs (nI q) 0) = post (jR n h e q 0 s 0).1 (jR n h e q 0 s 0).2 fi fs := by
        intro post
        refine lpG (σ := Int32 × Int32 × (Nat → Int32) × Int32 × Int32) (fun K x => wb_X8_judge_28 rw now (nI r) post (fun a b c d e => K (a, b, c, d, e)) x.1 x.2.1 x.2.2.1 x.2.2.2.1 x.2.2.2.2) (fun z x => wl_X8_judge_28 rw now (nI r) post z x.1 x.2.1 x.2.2.1 x.2.2.2.1 x.2.2.2.2) (fun _ => rfl) (fun _ _ => rfl) q (fun k => (lt, fi, fs, nI q, nI k)) _ (fun k K hk => P8 post k hk (by rw [← d k (by omega)]; exact hall k hk) _) (fun K => ?_)
        have w := e_mjudge2 hM hW hr hq he8 lt fi fs post q 0 s 0 (by omega) hs
        show wb_X8_judge_28 rw now (nI r) post (fun a b c d e => K (a, b, c, d, e)) lt fi fs (nI q) (nI q) = _
        simp (disch := omega) only [wb_X8_judge_28, q_le, hs2]
        rw [show nI 0 = 0 from rfl] at w
        simp [w]
      simp [k7, k8, hT]
    · have hx : rc (40 * r + i0) < 0 ∨ nI n ≤ rc (40 * r + i0) := by
        rcases pk_ix (rc (40 * r + i0)) (n := n) (by omega) with hh | hh | ⟨j, hj, hh⟩
        · exact Or.inl hh
        · exact Or.inr hh
        · exact absurd ⟨j, hj, hh⟩ h2
      have hx8 : rw (40 * r + i0) < 0 ∨ nI n ≤ rw (40 * r + i0) := by rw [← d i0 (by omega)]; exact hx
      have nk : ¬ q ≤ i0 := by omega
      have k7 : ∀ post : Int32 → Int32 → (Nat → Int32) → Int32 → Prop, (∃ zn, wl_X7_judge_28 240 (nI 40) rc kinds whos toWhoms topics weights answered (nI n) (nI s) (nI r) post zn lt of la (nI q) 0) = post (-3) lt (upd of 3 (of 3 + 1)) (nI 3) := by
        intro post
        refine lpG (σ := Int32 × (Nat → Int32) × Int32 × Int32 × Int32) (fun K x => wb_X7_judge_28 240 (nI 40) rc kinds whos toWhoms topics weights answered (nI n) (nI s) (nI r) post (fun a b c d e => K (a, b, c, d, e)) x.1 x.2.1 x.2.2.1 x.2.2.2.1 x.2.2.2.2) (fun z x => wl_X7_judge_28 240 (nI 40) rc kinds whos toWhoms topics weights answered (nI n) (nI s) (nI r) post z x.1 x.2.1 x.2.2.1 x.2.2.2.1 x.2.2.2.2) (fun _ => rfl) (fun _ _ => rfl) i0 (fun k => (lt, of, la, nI q, nI k)) _ (fun k K hk => P7 post k (by omega) (h3 k hk) _) (fun K => ?_)
        show wb_X7_judge_28 240 (nI 40) rc kinds whos toWhoms topics weights answered (nI n) (nI s) (nI r) post (fun a b c d e => K (a, b, c, d, e)) lt of la (nI q) (nI i0) = _
        simp (disch := omega) only [wb_X7_judge_28, q_le, nk, e5_cell, e_hasNumN hW hx, z_3, e6_note]
        simp
      have k8 : ∀ post : Int32 → Int32 → Int32 → (Nat → Int32) → Prop, (∃ zn, wl_X8_judge_28 rw now (nI r) post zn lt fi fs (nI q) 0) = post (-3) lt (nI 3) (upd fs 3 (fs 3 + 1)) := by
        intro post
        refine lpG (σ := Int32 × Int32 × (Nat → Int32) × Int32 × Int32) (fun K x => wb_X8_judge_28 rw now (nI r) post (fun a b c d e => K (a, b, c, d, e)) x.1 x.2.1 x.2.2.1 x.2.2.2.1 x.2.2.2.2) (fun z x => wl_X8_judge_28 rw now (nI r) post z x.1 x.2.1 x.2.2.1 x.2.2.2.1 x.2.2.2.2) (fun _ => rfl) (fun _ _ => rfl) i0 (fun k => (lt, fi, fs, nI q, nI k)) _ (fun k K hk => P8 post k (by omega) (by rw [← d k (by omega)]; exact h3 k hk) _) (fun K => ?_)
        show wb_X8_judge_28 rw now (nI r) post (fun a b c d e => K (a, b, c, d, e)) lt fi fs (nI q) (nI i0) = _
        simp (disch := omega) only [wb_X8_judge_28, q_le, nk, z_40, pk_mul, nI_add, q_in, q_cl, e_isSayingN hM hW hx8, z_3, e8_found]
        simp
      simp [k7, k8]
      exact hT.note (f := 3) (by omega) (by omega)
end HE5
