/-! keep, on: the class answers as the reference -/
theorem DK.ext {deeds now now' : Nat → Int32} : ∀ k n, DK deeds now k n → (∀ x, x < 75 + k → now' x = now x) → DK deeds now' k n := by
  intro k
  induction k with
  | zero => intro n _ _; exact trivial
  | succ k ih =>
    intro n hd he
    have e := he (75 + k) (by omega)
    rcases hd with ⟨a, b, c, d⟩ | ⟨i, a, b, c, d⟩
    · exact Or.inl ⟨a, b, by rw [e]; exact c, ih (n - 1) d (fun x hx => he x (by omega))⟩
    · exact Or.inr ⟨i, a, b, by rw [e]; exact c, ih n d (fun x hx => he x (by omega))⟩
theorem MH.ext {now now' : Nat → Int32} {n : Nat} {h : Nat → Nat → Nat} (hM : MH now n h) (hn : n ≤ 12) (he : ∀ x, x < 115 → now' x = now x) : MH now' n h := ⟨by rw [he 0 (by omega)]; exact hM.1, fun j hj => by
  rw [he (3 + j) (by omega), he (15 + j) (by omega), he (27 + j) (by omega), he (39 + j) (by omega), he (51 + j) (by omega), he (63 + j) (by omega)]
  exact hM.2 j hj⟩
theorem HP.ext {kinds whos toWhoms topics weights answered deeds now now' : Nat → Int32} {n s dn : Nat} {h : Nat → Nat → Nat} (hP : HP kinds whos toWhoms topics weights answered deeds now n s dn h) (he : ∀ x, x < 115 → now' x = now x) : HP kinds whos toWhoms topics weights answered deeds now' n s dn h := by
  obtain ⟨hR, hM, hW, hs, hd, h1, h2, hK⟩ := hP
  exact ⟨hR, hM.ext hW.1 he, hW, hs, hd, by rw [he 1 (by omega)]; exact h1, by rw [he 2 (by omega)]; exact h2, hK.ext dn n (fun x hx => he x (by omega))⟩
theorem HQ.ext {kinds whos toWhoms topics weights answered deeds now now' : Nat → Int32} {sz sB dC : Int32} (hQ : HQ kinds whos toWhoms topics weights answered deeds sz sB dC now) (he : ∀ x, x < 115 → now' x = now x) : HQ kinds whos toWhoms topics weights answered deeds sz sB dC now' := by
  obtain ⟨n, s, dn, h, a, b, c, hP⟩ := hQ
  exact ⟨n, s, dn, h, a, b, c, hP.ext he⟩
theorem DK.cpy {deeds now d0 : Nat → Int32} : ∀ k n, DK deeds now k n → k ≤ 40 → DK (va_cpy deeds d0 0 0 40) now k n := by
  intro k
  induction k with
  | zero => intro n _ _; exact trivial
  | succ k ih =>
    intro n hd hk
    have e : va_cpy deeds d0 0 0 40 k = deeds k := cpy0 (by omega)
    rcases hd with ⟨a, b, c, d⟩ | ⟨i, a, b, c, d⟩
    · exact Or.inl ⟨by rw [e]; exact a, b, c, ih (n - 1) d (by omega)⟩
    · exact Or.inr ⟨i, a, by rw [e]; exact b, c, ih n d (by omega)⟩
/-- a heap that became like another one -/
theorem HP.cpy {kinds whos toWhoms topics weights answered deeds now k0 w0 o0 g0 e0 r0 d0 : Nat → Int32} {n s dn : Nat} {h : Nat → Nat → Nat} (hP : HP kinds whos toWhoms topics weights answered deeds now n s dn h) : HP (va_cpy kinds k0 0 0 12) (va_cpy whos w0 0 0 12) (va_cpy toWhoms o0 0 0 12) (va_cpy topics g0 0 0 12) (va_cpy weights e0 0 0 12) (va_cpy answered r0 0 0 12) (va_cpy deeds d0 0 0 40) now n s dn h := by
  obtain ⟨hR, hM, hW, hs, hd, h1, h2, hK⟩ := hP
  exact ⟨hR.cpy hW.1, hM, hW, hs, hd, h1, h2, hK.cpy dn n hd⟩
theorem HQ.cpy {kinds whos toWhoms topics weights answered deeds now k0 w0 o0 g0 e0 r0 d0 : Nat → Int32} {sz sB dC : Int32} (hQ : HQ kinds whos toWhoms topics weights answered deeds sz sB dC now) : HQ (va_cpy kinds k0 0 0 12) (va_cpy whos w0 0 0 12) (va_cpy toWhoms o0 0 0 12) (va_cpy topics g0 0 0 12) (va_cpy weights e0 0 0 12) (va_cpy answered r0 0 0 12) (va_cpy deeds d0 0 0 40) sz sB dC now := by
  obtain ⟨n, s, dn, h, a, b, c, hP⟩ := hQ
  exact ⟨n, s, dn, h, a, b, c, hP.cpy⟩
theorem y_2 : (2 : Int64) = (nI 2).toInt64 := by decide
theorem q_lt3 {j : Nat} (h : j < 3) : (nI j < 3) = True := eq_true (nI_lt (b := 3) h (by decide))
section KP2
variable {kinds whos toWhoms topics weights answered deeds now : Nat → Int32} {sz sB dC : Int32}
/-- the reference keeps -/
theorem e_mkeep {n : Nat} (hn : n ≤ 12) (h0 : now 0 = nI n) (hn0 : n ≠ 0) (keeps kM : Nat → Int32) {j : Nat} (hj : j < 3) (post : Int32 → (Nat → Int32) → (Nat → Int32) → Prop) : wp_X8_keep now keeps kM (nI j) post = post (now 1) (va_cpy now keeps 0 (115 * j) 115) (upd kM j 1) := by
  have c0 : ∀ post, wp_X8_copies 115 now 345 keeps 0 (nI (115 * j)) post = post (va_cpy now keeps 0 (115 * j) 115) := fun post => e_copies (i := 0) (j := 115 * j) (by omega) (by omega) (by omega) (by omega) now keeps post
  have e0 : (nI n = 0) = False := by rw [z_0, q_eq (by omega) (by omega)]; simp [hn0]
  have z115 : (115 : Int32) * nI j = nI (115 * j) := pk_mul 115 j
  simp (disch := omega) only [wp_X8_keep, y_2, e_inY, n_1, h0, e0, z115, c0, q_in, q_cl, nar_o]
  simp
theorem s_keepA {n : Nat} (hn : n ≤ 12) (h0 : now 0 = nI n) (keeps kM : Nat → Int32) (k : Int32) (hk : k < 0 ∨ nI 3 ≤ k ∨ n = 0) : wp_X7_keepA (nI n) k (fun a => wp_X8_keep now keeps kM k (fun a' keeps' kM' => a = a' ∧ keeps' = keeps ∧ kM' = kM)) := by
  rcases pk_ix k (n := 3) (by decide) with hb | hb | ⟨j, hj, rfl⟩
  · simp only [wp_X7_keepA, hb, wp_X8_keep, y_2, e_inL _ hb]
    simp
  · have c1 : (k < 0) = False := eq_false (big_pos (by decide) hb)
    have c2 : (k < 3) = False := eq_false (Int32.not_lt.mpr hb)
    have c3 : nI 2 < k := q_lt_of_le (by decide) hb
    simp only [wp_X7_keepA, c1, c2, wp_X8_keep, y_2, e_inH c3]
    simp
  · have : n = 0 := by
      rcases hk with hk | hk | hk
      · exact absurd hk (nI_pos (by omega))
      · exact absurd hk (nI_ge hj (by decide))
      · exact hk
    subst this
    simp (disch := omega) only [wp_X7_keepA, q_lt0, q_lt3 hj, wp_X1_howMany, wp_X8_keep, y_2, e_inY, n_1, h0, show (nI 0 = 0) = True from eq_true rfl]
    simp
theorem s_keepB (hQ : HQ kinds whos toWhoms topics weights answered deeds sz sB dC now) (hz : ¬ sz = 0) (kept : Nat → Option Nat) (keeps kM pk pw po pg pe pr pd : Nat → Int32) (ps pb pc_ : Int32) {j zq : Nat} (hj : j < 3) (hkp : kept j = some zq) : wp_X7_keepB kinds whos toWhoms topics weights answered deeds sz sB dC kept pk pw po pg pe pr pd ps pb pc_ (nI j) zq (fun a k' w' o' g' e' r' d' s' b' c' => wp_X8_keep now keeps kM (nI j) (fun a' keeps' kM' => a = a' ∧ HQ k' w' o' g' e' r' d' s' b' c' (fun x => keeps' (115 * j + x)) ∧ c' = keeps' (115 * j + 1) ∧ (∀ i x, i ≠ j → x < 115 → keeps' (115 * i + x) = keeps (115 * i + x)) ∧ kM' = upd kM j 1)) := by
  have hQ0 := hQ
  obtain ⟨n, s, dn, h, rfl, rfl, rfl, hP⟩ := hQ
  have hn := hP.2.2.1.1
  have hn0 : n ≠ 0 := fun e => hz (by rw [e]; rfl)
  have h0 := hP.2.1.1
  have h1 := hP.2.2.2.2.2.1
  have hz' : (nI n = 0) = False := eq_false hz
  have kj : ∀ x, x < 115 → va_cpy now keeps 0 (115 * j) 115 (115 * j + x) = now x := fun x hx => by
    unfold va_cpy
    rw [if_pos (by omega)]
    congr 1; omega
  simp (disch := omega) only [wp_X7_keepB, q_lt0, q_lt3 hj, wp_X1_howMany, hz', q_in, q_cl, hkp, wb_X7_keepB_50, wp_X1_becomeLike, wp_X1_howManyDeeds, e_mkeep hn h0 hn0 _ _ hj, h1]
  simp
  refine ⟨(HQ.cpy hQ0).ext kj, by rw [kj 1 (by omega)]; exact h1.symm, fun i x hi hx => ?_⟩
  unfold va_cpy
  rw [if_neg (by omega)]
theorem s_onA (hQ : HQ kinds whos toWhoms topics weights answered deeds sz sB dC now) {of fs : Nat → Int32} {la fi : Int32} (hT : TL of la fs fi) (kept : Nat → Option Nat) (keeps kM : Nat → Int32) (k : Int32) (hk : k < 0 ∨ nI 3 ≤ k ∨ ∃ j, j < 3 ∧ k = nI j ∧ kept j = none ∧ kM j = 0) : wp_X7_onA kept of la k (fun a of' la' => wp_X8_on now keeps kM fi fs k (fun a' now' fi' fs' => a = a' ∧ now' = now ∧ TL of' la' fs' fi')) := by
  rcases hk with hb | hb | ⟨j, hj, rfl, h1, h2⟩
  · simp only [wp_X7_onA, hb, wp_X8_on, y_2, e_inL _ hb]
    simp
    exact hT
  · have c1 : (k < 0) = False := eq_false (big_pos (by decide) hb)
    have c2 : (k < 3) = False := eq_false (Int32.not_lt.mpr hb)
    have c3 : nI 2 < k := q_lt_of_le (by decide) hb
    simp only [wp_X7_onA, c1, c2, wp_X8_on, y_2, e_inH c3]
    simp
    exact hT
  · simp (disch := omega) only [wp_X7_onA, q_lt0, q_lt3 hj, q_in, q_cl, h1, wp_X8_on, y_2, e_inY, n_1, h2, show (1 : Int32) = nI 1 from rfl, e6_note, e8_found]
    simp [show nI 1 = 1 from rfl]
    exact hT.note (by omega) (by omega)
theorem s_onB (hQ : HQ kinds whos toWhoms topics weights answered deeds sz sB dC now) {of fs : Nat → Int32} {la fi : Int32} (hT : TL of la fs fi) (kept : Nat → Option Nat) (keeps kM pk pw po pg pe pr pd : Nat → Int32) (ps pb pc_ : Int32) {j zq : Nat} (hj : j < 3) (hkp : kept j = some zq) (h1 : ¬ kM j = 0) (hp : HQ pk pw po pg pe pr pd ps pb pc_ (fun x => keeps (115 * j + x))) : wp_X7_onB kinds whos toWhoms topics weights answered deeds sz sB dC kept pk pw po pg pe pr pd ps pb pc_ (nI j) zq (fun a k' w' o' g' e' r' d' s' b' c' => wp_X8_on now keeps kM fi fs (nI j) (fun a' now' fi' fs' => a = a' ∧ HQ k' w' o' g' e' r' d' s' b' c' now' ∧ fi' = fi ∧ fs' = fs)) := by
  have hp0 := hp
  obtain ⟨n, s, dn, h, rfl, rfl, rfl, hP⟩ := hp
  have g1 : keeps (115 * j + 1) = nI dn := hP.2.2.2.2.2.1
  have kj : ∀ x, x < 115 → va_cpy keeps now (115 * j) 0 115 x = keeps (115 * j + x) := fun x hx => by
    unfold va_cpy
    rw [if_pos (by omega)]
    rfl
  have c0 : ∀ post, wp_X8_copies 345 keeps 115 now (nI (115 * j)) 0 post = post (va_cpy keeps now (115 * j) 0 115) := fun post => e_copies (i := 115 * j) (j := 0) (by omega) (by omega) (by omega) (by omega) keeps now post
  have z115 : (115 : Int32) * nI j = nI (115 * j) := pk_mul 115 j
  simp (disch := omega) only [wp_X7_onB, q_lt0, q_lt3 hj, q_in, q_cl, hkp, wp_X1_becomeLike, wp_X1_howManyDeeds, wp_X8_on, y_2, e_inY, n_1, h1, z115, c0, kj 1 (by omega), g1]
  simp
  exact (HQ.cpy hp0).ext kj
end KP2
