/-! count, judge -/
section HE4
variable {kinds whos toWhoms topics weights answered now : Nat → Int32} {n s dn : Nat} {h : Nat → Nat → Nat}
section CT
variable {rS tS kM : Nat → Int32} {what : Int32} {post : Int32 → Prop}
theorem e_171n (x2 x3 x4 : Int32) (hw : what ≠ 8) : (∃ zn, wl_X8_counted_171 now kM what post zn x2 x3 x4 0) = wb_X8_counted_209 now what post x2 x3 x4 := by
  refine lp_en (σ := Int32 × Int32 × Int32 × Int32) (fun K x => wb_X8_counted_171 now kM what post (fun a b c d => K (a, b, c, d)) x.1 x.2.1 x.2.2.1 x.2.2.2) (fun z x => wl_X8_counted_171 now kM what post z x.1 x.2.1 x.2.2.1 x.2.2.2) (fun _ => rfl) (fun _ _ => rfl) (x := (x2, x3, x4, 0)) (fun K => ?_)
  have h3 : ¬ (3 : Int32) ≤ 0 := by decide
  show wb_X8_counted_171 now kM what post (fun a b c d => K (a, b, c, d)) x2 x3 x4 0 = _
  simp only [wb_X8_counted_171, h3, hw]
  simp
theorem e_130n (x2 x3 x4 : Int32) (hw : what ≠ 7) : (∃ zn, wl_X8_counted_130 tS now kM what post zn x2 x3 x4 0) = (∃ zn, wl_X8_counted_171 now kM what post zn x2 x3 x4 0) := by
  refine lp_en (σ := Int32 × Int32 × Int32 × Int32) (fun K x => wb_X8_counted_130 tS now kM what post (fun a b c d => K (a, b, c, d)) x.1 x.2.1 x.2.2.1 x.2.2.2) (fun z x => wl_X8_counted_130 tS now kM what post z x.1 x.2.1 x.2.2.1 x.2.2.2) (fun _ => rfl) (fun _ _ => rfl) (x := (x2, x3, x4, 0)) (fun K => ?_)
  have h3 : ¬ (4 : Int32) ≤ 0 := by decide
  show wb_X8_counted_130 tS now kM what post (fun a b c d => K (a, b, c, d)) x2 x3 x4 0 = _
  simp only [wb_X8_counted_130, h3, hw]
  simp
theorem e_88n (x2 x3 x4 : Int32) (hw : what ≠ 6) : (∃ zn, wl_X8_counted_88 rS tS now kM what post zn x2 x3 x4 0) = (∃ zn, wl_X8_counted_130 tS now kM what post zn x2 x3 x4 0) := by
  refine lp_en (σ := Int32 × Int32 × Int32 × Int32) (fun K x => wb_X8_counted_88 rS tS now kM what post (fun a b c d => K (a, b, c, d)) x.1 x.2.1 x.2.2.1 x.2.2.2) (fun z x => wl_X8_counted_88 rS tS now kM what post z x.1 x.2.1 x.2.2.1 x.2.2.2) (fun _ => rfl) (fun _ _ => rfl) (x := (x2, x3, x4, 0)) (fun K => ?_)
  have h3 : ¬ (6 : Int32) ≤ 0 := by decide
  show wb_X8_counted_88 rS tS now kM what post (fun a b c d => K (a, b, c, d)) x2 x3 x4 0 = _
  simp only [wb_X8_counted_88, h3, hw]
  simp
theorem e_88y {m : Nat → Nat} {rs rc rw : Nat → Int32} (hS : SH 6 40 m rs rc rS rw) (x2 x3 : Int32) : (∃ zn, wl_X8_counted_88 rS tS now kM (nI 6) post zn x2 x3 0 0) = post (nI (cn 6 (fun r => m r != 0))) := by
  refine lpG (σ := Int32 × Int32 × Int32 × Int32) (fun K x => wb_X8_counted_88 rS tS now kM (nI 6) post (fun a b c d => K (a, b, c, d)) x.1 x.2.1 x.2.2.1 x.2.2.2) (fun z x => wl_X8_counted_88 rS tS now kM (nI 6) post z x.1 x.2.1 x.2.2.1 x.2.2.2) (fun _ => rfl) (fun _ _ => rfl) 6 (fun k => (x2, x3, nI (cn k (fun r => m r != 0)), nI k)) _ (fun k K hk => ?_) (fun K => ?_)
  · have nk : ¬ 6 ≤ k := by omega
    obtain ⟨a, b, c, d⟩ := hS k hk
    show wb_X8_counted_88 rS tS now kM (nI 6) post (fun a b c d => K (a, b, c, d)) x2 x3 (nI (cn k (fun r => m r != 0))) (nI k) = K (x2, x3, nI (cn (k + 1) (fun r => m r != 0)), nI (k + 1))
    simp (disch := omega) only [wb_X8_counted_88, z_6, q_le, nk, q_in, q_cl, c, q_szp, q_a0, nI_1]
    by_cases c1 : m k = 0 <;> simp [cn, c1]
  · show wb_X8_counted_88 rS tS now kM (nI 6) post (fun a b c d => K (a, b, c, d)) x2 x3 (nI (cn 6 (fun r => m r != 0))) (nI 6) = _
    have h7 : (nI 6 : Int32) ≠ 7 := by decide
    have h8 : (nI 6 : Int32) ≠ 8 := by decide
    simp (disch := omega) only [wb_X8_counted_88, z_6, q_le, e_130n _ _ _ h7, e_171n _ _ _ h8]
    simp only [wb_X8_counted_209]
    simp [show nI 6 = 6 from rfl]
theorem e_130y {m : Nat → Nat} {ts tc tw : Nat → Int32} (hS : SH 4 80 m ts tc tS tw) (x2 x3 : Int32) : (∃ zn, wl_X8_counted_130 tS now kM (nI 7) post zn x2 x3 0 0) = post (nI (cn 4 (fun r => m r != 0))) := by
  refine lpG (σ := Int32 × Int32 × Int32 × Int32) (fun K x => wb_X8_counted_130 tS now kM (nI 7) post (fun a b c d => K (a, b, c, d)) x.1 x.2.1 x.2.2.1 x.2.2.2) (fun z x => wl_X8_counted_130 tS now kM (nI 7) post z x.1 x.2.1 x.2.2.1 x.2.2.2) (fun _ => rfl) (fun _ _ => rfl) 4 (fun k => (x2, x3, nI (cn k (fun r => m r != 0)), nI k)) _ (fun k K hk => ?_) (fun K => ?_)
  · have nk : ¬ 4 ≤ k := by omega
    obtain ⟨a, b, c, d⟩ := hS k hk
    show wb_X8_counted_130 tS now kM (nI 7) post (fun a b c d => K (a, b, c, d)) x2 x3 (nI (cn k (fun r => m r != 0))) (nI k) = K (x2, x3, nI (cn (k + 1) (fun r => m r != 0)), nI (k + 1))
    simp (disch := omega) only [wb_X8_counted_130, z_4, z_7, q_le, nk, q_in, q_cl, c, q_szp, q_a0, nI_1]
    by_cases c1 : m k = 0 <;> simp [cn, c1]
  · show wb_X8_counted_130 tS now kM (nI 7) post (fun a b c d => K (a, b, c, d)) x2 x3 (nI (cn 4 (fun r => m r != 0))) (nI 4) = _
    have h8 : (nI 7 : Int32) ≠ 8 := by decide
    simp (disch := omega) only [wb_X8_counted_130, z_4, q_le, e_171n _ _ _ h8]
    simp only [wb_X8_counted_209]
    simp [show nI 4 = 4 from rfl, show nI 7 = 7 from rfl]
theorem e_171y {kept : Nat → Option Nat} (hK : KP kept kM) (x2 x3 : Int32) : (∃ zn, wl_X8_counted_171 now kM (nI 8) post zn x2 x3 0 0) = post (nI (cn 3 (fun k => (kept k).isSome))) := by
  refine lpG (σ := Int32 × Int32 × Int32 × Int32) (fun K x => wb_X8_counted_171 now kM (nI 8) post (fun a b c d => K (a, b, c, d)) x.1 x.2.1 x.2.2.1 x.2.2.2) (fun z x => wl_X8_counted_171 now kM (nI 8) post z x.1 x.2.1 x.2.2.1 x.2.2.2) (fun _ => rfl) (fun _ _ => rfl) 3 (fun k => (x2, x3, nI (cn k (fun k => (kept k).isSome)), nI k)) _ (fun k K hk => ?_) (fun K => ?_)
  · have nk : ¬ 3 ≤ k := by omega
    have hk0 := hK k hk
    show wb_X8_counted_171 now kM (nI 8) post (fun a b c d => K (a, b, c, d)) x2 x3 (nI (cn k (fun k => (kept k).isSome))) (nI k) = K (x2, x3, nI (cn (k + 1) (fun k => (kept k).isSome)), nI (k + 1))
    simp (disch := omega) only [wb_X8_counted_171, z_3, z_8, q_le, nk, q_in, q_cl, ← hk0, q_a0, nI_1]
    cases c1 : kept k <;> simp [cn, c1]
  · show wb_X8_counted_171 now kM (nI 8) post (fun a b c d => K (a, b, c, d)) x2 x3 (nI (cn 3 (fun k => (kept k).isSome))) (nI 3) = _
    simp (disch := omega) only [wb_X8_counted_171, z_3, q_le]
    simp only [wb_X8_counted_209]
    simp [show nI 3 = 3 from rfl, show nI 8 = 8 from rfl]
theorem e_counted (hM : MH now n h) (hW : HW n h) : wp_X8_counted rS tS now kM what post = (∃ zn, wl_X8_counted_88 rS tS now kM what post zn (nI (orM n (fun e => h 5 e == 0) (fun e => 2 ^ h 1 e))) (nI (cn n (fun e => isOfB (h 0 e) 1))) 0 0) := by
  have hn := hW.1
  refine lpG (σ := Int32 × Int32 × Int32) (fun K x => wb_X8_counted_7 rS tS now kM what post (fun a b c => K (a, b, c)) x.1 x.2.1 x.2.2) (fun z x => wl_X8_counted_7 rS tS now kM what post z x.1 x.2.1 x.2.2) (fun _ => rfl) (fun _ _ => rfl) n (fun k => (nI (orM k (fun e => h 5 e == 0) (fun e => 2 ^ h 1 e)), nI (cn k (fun e => isOfB (h 0 e) 1)), nI k)) _ (fun k K hk => ?_) (fun K => ?_)
  · have nk : ¬ n ≤ k := by omega
    have hb := hW.2 k hk
    obtain ⟨r0, r1, r2, r3, r4, r5⟩ := hM.2 k hk
    show wb_X8_counted_7 rS tS now kM what post (fun a b c => K (a, b, c)) (nI (orM k (fun e => h 5 e == 0) (fun e => 2 ^ h 1 e))) (nI (cn k (fun e => isOfB (h 0 e) 1))) (nI k) = K (nI (orM (k + 1) (fun e => h 5 e == 0) (fun e => 2 ^ h 1 e)), nI (cn (k + 1) (fun e => isOfB (h 0 e) 1)), nI (k + 1))
    have i1 : ∀ post : Int32 → Prop, wp_X8_isOf (nI (h 0 k)) 1 post = post (if isOfB (h 0 k) 1 = true then 1 else 0) := fun post => e_mIsOf hb.1 (by decide) (by decide) post
    simp (disch := omega) only [wb_X8_counted_7, hM.1, q_le, nk, z_63, z_15, z_3, nI_add, q_in, q_cl, r5, r1, r0, q_a9, wb_X8_counted_50, i1, q_if0, q_sh, q_or, q_o0, q_a0, nI_1]
    by_cases c1 : h 5 k = 0 <;> cases c2 : isOfB (h 0 k) 1 <;> simp [orM, cn, c1, c2]
  · show wb_X8_counted_7 rS tS now kM what post (fun a b c => K (a, b, c)) _ _ (nI n) = _
    simp (disch := omega) only [wb_X8_counted_7, hM.1, q_le]
    simp
end CT
theorem s_count (hR : HR kinds whos toWhoms topics weights answered n h) (hM : MH now n h) (hW : HW n h) (hs : s < 4096) (hs2 : now 2 = nI s) (hd : now 1 = nI dn) {m1 m2 : Nat → Nat} {rs rc rS rw ts tc tS tw : Nat → Int32} (h1 : SH 6 40 m1 rs rc rS rw) (h2 : SH 4 80 m2 ts tc tS tw) {kept : Nat → Option Nat} {kM : Nat → Int32} (hK : KP kept kM) (what : Int32) : wp_X7_count 6 rs 4 ts kinds whos toWhoms topics weights answered (nI n) (nI s) (nI dn) kept what (fun a => wp_X8_count rS tS now kM what (fun a' => a = a')) := by
  have hn := hW.1
  have ob : orM n (fun e => h 5 e == 0) (fun e => 2 ^ h 1 e) < 4096 := by
    have : orM n (fun e => h 5 e == 0) (fun e => 2 ^ h 1 e) < 2 ^ 6 := orM_lt (N := 6) fun e he _ => pw_lt (hW.2 e he).2.1
    omega
  rcases pk_ix what (n := 9) (by decide) with hw | hw | ⟨k, hk, rfl⟩
  · have e : ∀ c : Nat, (what = nI c) = False ∨ 2 ^ 31 ≤ c := fun c => by
      by_cases hc : c < 2 ^ 31
      · exact Or.inl (eq_false fun hh => by rw [hh, q_lt0 hc] at hw; exact hw)
      · exact Or.inr (by omega)
    have f : ∀ c : Nat, c < 9 → (what = nI c) = False := fun c hc => (e c).resolve_right (by omega)
    simp only [wp_X7_count, wp_X8_count, y_8, e_inL _ hw, show what = 0 ↔ False from iff_of_eq (f 0 (by decide)), show what = 1 ↔ False from iff_of_eq (f 1 (by decide)), show what = 2 ↔ False from iff_of_eq (f 2 (by decide)), show what = 3 ↔ False from iff_of_eq (f 3 (by decide)), show what = 4 ↔ False from iff_of_eq (f 4 (by decide)), show what = 5 ↔ False from iff_of_eq (f 5 (by decide)), show what = 6 ↔ False from iff_of_eq (f 6 (by decide)), show what = 7 ↔ False from iff_of_eq (f 7 (by decide)), show what = 8 ↔ False from iff_of_eq (f 8 (by decide))]
    simp
  · have f : ∀ c : Nat, c < 9 → (what = nI c) = False := fun c hc => eq_false fun hh => by
      rw [hh, q_le (by omega) (by omega)] at hw; omega
    have h3 : nI 8 < what := Int32.lt_of_lt_of_le (by decide) hw
    simp only [wp_X7_count, wp_X8_count, y_8, e_inH h3, show what = 0 ↔ False from iff_of_eq (f 0 (by decide)), show what = 1 ↔ False from iff_of_eq (f 1 (by decide)), show what = 2 ↔ False from iff_of_eq (f 2 (by decide)), show what = 3 ↔ False from iff_of_eq (f 3 (by decide)), show what = 4 ↔ False from iff_of_eq (f 4 (by decide)), show what = 5 ↔ False from iff_of_eq (f 5 (by decide)), show what = 6 ↔ False from iff_of_eq (f 6 (by decide)), show what = 7 ↔ False from iff_of_eq (f 7 (by decide)), show what = 8 ↔ False from iff_of_eq (f 8 (by decide))]
    simp
  · have i1 : ∀ post : Int32 → Prop, wp_X1_howManyOf kinds (nI n) 1 post = post (nI (cn n (fun e => isOfB (h 0 e) 1))) := fun post => e_howManyOf hR hW (t := 1) (by decide) post
    have hk9 : k = 0 ∨ k = 1 ∨ k = 2 ∨ k = 3 ∨ k = 4 ∨ k = 5 ∨ k = 6 ∨ k = 7 ∨ k = 8 := by omega
    rw [wp_X7_count]
    simp (disch := omega) only [wp_X1_howMany, wp_X1_saidBits, e_bc, wp_X1_howManyDeeds, e_pricesOf hR hW, e_beginners hR hW, i1, e_there h1, e_there h2, e_keptN, wp_X8_count, y_8, e_inY, n_1, e_counted hM hW]
    have q : ∀ a b : Nat, a < 9 → b < 9 → ((nI a : Int32) = nI b) = (a = b) := fun a b ha hb => q_eq (by omega) (by omega)
    have pr : ∀ post : Int32 → Prop, wp_X8_pricesOf now 63 post = post (nI (sumM n (fun e => s.testBit e) (priceS n h s))) := fun post => by
      rw [z_63, e_mprices hM hW hs hs2 (by decide), prices63 hW]
    rcases hk9 with rfl | rfl | rfl | rfl | rfl | rfl | rfl | rfl | rfl
    · have g6 : nI 0 ≠ 6 := by decide
      have g7 : nI 0 ≠ 7 := by decide
      have g8 : nI 0 ≠ 8 := by decide
      simp only [e_88n _ _ _ g6, e_130n _ _ _ g7, e_171n _ _ _ g8]
      simp (disch := omega) only [wb_X8_counted_209, hM.1, hs2, hd, e_mbits, pr]
      simp [show nI 0 = 0 from rfl, show nI 1 = 1 from rfl, show nI 2 = 2 from rfl, show nI 3 = 3 from rfl, show nI 4 = 4 from rfl, show nI 5 = 5 from rfl]
    · have g6 : nI 1 ≠ 6 := by decide
      have g7 : nI 1 ≠ 7 := by decide
      have g8 : nI 1 ≠ 8 := by decide
      simp only [e_88n _ _ _ g6, e_130n _ _ _ g7, e_171n _ _ _ g8]
      simp (disch := omega) only [wb_X8_counted_209, hM.1, hs2, hd, e_mbits, pr]
      simp [show nI 0 = 0 from rfl, show nI 1 = 1 from rfl, show nI 2 = 2 from rfl, show nI 3 = 3 from rfl, show nI 4 = 4 from rfl, show nI 5 = 5 from rfl]
    · have g6 : nI 2 ≠ 6 := by decide
      have g7 : nI 2 ≠ 7 := by decide
      have g8 : nI 2 ≠ 8 := by decide
      simp only [e_88n _ _ _ g6, e_130n _ _ _ g7, e_171n _ _ _ g8]
      simp (disch := omega) only [wb_X8_counted_209, hM.1, hs2, hd, e_mbits, pr]
      simp [show nI 0 = 0 from rfl, show nI 1 = 1 from rfl, show nI 2 = 2 from rfl, show nI 3 = 3 from rfl, show nI 4 = 4 from rfl, show nI 5 = 5 from rfl]
    · have g6 : nI 3 ≠ 6 := by decide
      have g7 : nI 3 ≠ 7 := by decide
      have g8 : nI 3 ≠ 8 := by decide
      simp only [e_88n _ _ _ g6, e_130n _ _ _ g7, e_171n _ _ _ g8]
      simp (disch := omega) only [wb_X8_counted_209, hM.1, hs2, hd, e_mbits, pr]
      simp [show nI 0 = 0 from rfl, show nI 1 = 1 from rfl, show nI 2 = 2 from rfl, show nI 3 = 3 from rfl, show nI 4 = 4 from rfl, show nI 5 = 5 from rfl]
    · have g6 : nI 4 ≠ 6 := by decide
      have g7 : nI 4 ≠ 7 := by decide
      have g8 : nI 4 ≠ 8 := by decide
      simp only [e_88n _ _ _ g6, e_130n _ _ _ g7, e_171n _ _ _ g8]
      simp (disch := omega) only [wb_X8_counted_209, hM.1, hs2, hd, e_mbits, pr]
      simp [show nI 0 = 0 from rfl, show nI 1 = 1 from rfl, show nI 2 = 2 from rfl, show nI 3 = 3 from rfl, show nI 4 = 4 from rfl, show nI 5 = 5 from rfl]
    · have g6 : nI 5 ≠ 6 := by decide
      have g7 : nI 5 ≠ 7 := by decide
      have g8 : nI 5 ≠ 8 := by decide
      simp only [e_88n _ _ _ g6, e_130n _ _ _ g7, e_171n _ _ _ g8]
      simp (disch := omega) only [wb_X8_counted_209, hM.1, hs2, hd, e_mbits, pr]
      simp [show nI 0 = 0 from rfl, show nI 1 = 1 from rfl, show nI 2 = 2 from rfl, show nI 3 = 3 from rfl, show nI 4 = 4 from rfl, show nI 5 = 5 from rfl]
    · simp only [e_88y h1]; simp [show nI 6 = 6 from rfl]
    · have g6 : nI 7 ≠ 6 := by decide
      simp only [e_88n _ _ _ g6, e_130y h2]; simp [show nI 7 = 7 from rfl]
    · have g6 : nI 8 ≠ 6 := by decide
      have g7 : nI 8 ≠ 7 := by decide
      simp only [e_88n _ _ _ g6, e_130n _ _ _ g7, e_171y hK]; simp [show nI 8 = 8 from rfl]
end HE4
