/-! the kept heaps, one of them written -/
/-- the kept heaps, their places told -/
def KRelA (D : va_G) (ca : Nat → ClassId) (A : Nat → Prop) (bL : List Nat) (ad : Nat → Nat → Nat) (kept : Nat → Option Nat) (kM keeps : Nat → Int32) (H : Heap) : Prop := (∀ k, k < 3 → (kept k = none ∧ kM k = 0) ∨ (kept k = some (ad k 0) ∧ ¬ kM k = 0 ∧ va_D A (dm (bL ++ aL8 (ad k))) ∧ PL D ca (ad k) (fun x => keeps (115 * k + x)) H)) ∧ ∀ k k', k < 3 → k' < 3 → k ≠ k' → ¬ kept k = none → ¬ kept k' = none → va_D A (dm (aL8 (ad k) ++ aL8 (ad k')))
section KA
variable {D : va_G} {ca : Nat → ClassId} {A : Nat → Prop} {bL : List Nat} {ad : Nat → Nat → Nat} {kept kept' : Nat → Option Nat} {kM keeps kM' keeps' : Nat → Int32} {H H1 : Heap}
theorem KRel.told (h : KRel D ca A bL kept kM keeps H) : ∃ ad, KRelA D ca A bL ad kept kM keeps H := h
theorem KRelA.close (h : KRelA D ca A bL ad kept kM keeps H) : KRel D ca A bL kept kM keeps H := ⟨ad, h⟩
theorem KRelA.frame (h : KRelA D ca A bL ad kept kM keeps H) (hk : ∀ q : Nat, q < H.size → ¬ q ∈ bL → H1[q]? = H[q]?) : KRelA D ca A bL ad kept kM keeps H1 := by
  obtain ⟨h1, h2⟩ := h
  refine ⟨fun k hk3 => ?_, h2⟩
  rcases h1 k hk3 with h | ⟨a, b, c, d⟩
  · exact Or.inl h
  · exact Or.inr ⟨a, b, c, d.kept fun q hq => hk q (d.lt q hq) (dm_apart c hq)⟩
/-- one place's cells written: its content is told anew -/
theorem KRelA.keep {j : Nat} (h : KRelA D ca A bL ad kept kM keeps H) (hj : j < 3) (hs : ¬ kept j = none) (hk : ∀ q : Nat, q < H.size → ¬ q ∈ bL ++ aL8 (ad j) → H1[q]? = H[q]?) (hP : PL D ca (ad j) (fun x => keeps (115 * j + x)) H1) : KRelA D ca A bL ad kept kM keeps H1 := by
  obtain ⟨h1, h2⟩ := h
  refine ⟨fun k hk3 => ?_, h2⟩
  rcases h1 k hk3 with h | ⟨a, b, c, d⟩
  · exact Or.inl h
  · by_cases e : k = j
    · subst e
      exact Or.inr ⟨a, b, c, hP⟩
    · refine Or.inr ⟨a, b, c, d.kept fun q hq => hk q (d.lt q hq) fun hm => ?_⟩
      rcases List.mem_append.mp hm with hm | hm
      · exact dm_apart c hq hm
      · exact dm_apart (h2 j k hj hk3 (fun z => e z.symm) hs (by rw [a]; exact fun z => nomatch z)) hq hm
/-- one place is told no more -/
theorem KRelA.drop {j : Nat} (h : KRelA D ca A bL ad kept kM keeps H) (hj : j < 3) (hs : ¬ kept j = none) (hk : ∀ q : Nat, q < H.size → ¬ q ∈ bL ++ aL8 (ad j) → H1[q]? = H[q]?) : KRelA D ca A bL ad (fun k => if k = j then none else kept k) (fun k => if k = j then 0 else kM k) keeps H1 := by
  obtain ⟨h1, h2⟩ := h
  refine ⟨fun k hk3 => ?_, fun k k' hk3 hk3' hne hn hn' => ?_⟩
  · by_cases e : k = j
    · exact Or.inl ⟨if_pos e, if_pos e⟩
    · show ((if k = j then none else kept k) = none ∧ (if k = j then 0 else kM k) = 0) ∨ ((if k = j then none else kept k) = some (ad k 0) ∧ ¬ (if k = j then 0 else kM k) = 0 ∧ _ ∧ _)
      rw [if_neg e, if_neg e]
      rcases h1 k hk3 with h | ⟨a, b, c, d⟩
      · exact Or.inl h
      · refine Or.inr ⟨a, b, c, d.kept fun q hq => hk q (d.lt q hq) fun hm => ?_⟩
        rcases List.mem_append.mp hm with hm | hm
        · exact dm_apart c hq hm
        · exact dm_apart (h2 j k hj hk3 (fun z => e z.symm) hs (by rw [a]; exact fun z => nomatch z)) hq hm
  · have e : k ≠ j := fun z => hn (if_pos z)
    have e' : k' ≠ j := fun z => hn' (if_pos z)
    have n1 : ¬ kept k = none := fun z => hn ((if_neg e).trans z)
    have n2 : ¬ kept k' = none := fun z => hn' ((if_neg e').trans z)
    exact h2 k k' hk3 hk3' hne n1 n2
theorem dm_swap {L M : List Nat} (h : va_D A (dm (L ++ M))) : va_D A (dm (M ++ L)) := dm_mk (List.perm_append_comm.nodup_iff.mp (dm_nodup h)) fun x hx => dm_in h (List.perm_append_comm.mem_iff.mp hx)
theorem dm_fresh {L M : List Nat} {z : Nat} (hL : va_D A (dm L)) (hM : va_D A (dm M)) (h1 : ∀ q ∈ L, q < z) (h2 : ∀ q ∈ M, z ≤ q) : va_D A (dm (L ++ M)) := by
  refine dm_mk ?_ fun x hx => ?_
  · exact List.pairwise_append.mpr ⟨dm_nodup hL, dm_nodup hM, fun x hx y hy e => by have := h1 x hx; have := h2 y hy; omega⟩
  · rcases List.mem_append.mp hx with hx | hx
    · exact dm_in hL hx
    · exact dm_in hM hx
theorem dm_left {L M : List Nat} (h : va_D A (dm (L ++ M))) : va_D A (dm M) := dm_mk (List.pairwise_append.mp (dm_nodup h)).2.1 fun x hx => dm_in h (List.mem_append_right _ hx)
/-- the place j told anew -/
theorem KRelA.make {j : Nat} {ap : Nat → Nat} {k w o g e r d : Nat → Int32} {ps pb pc : Int32} (h : KRelA D ca A bL ad kept kM keeps H) (hpj : ∀ i, i < 3 → i ≠ j → ¬ kept i = none → va_D A (dm (aL8 (ad i) ++ aL8 ap))) (hkept : ∀ i, i ≠ j → kept' i = kept i) (hs : kept' j = some (ap 0)) (hkM : ∀ i, i ≠ j → kM' i = kM i) (hmj : ¬ kM' j = 0) (hke : ∀ i x, i ≠ j → x < 115 → keeps' (115 * i + x) = keeps (115 * i + x)) (hDj : va_D A (dm (bL ++ aL8 ap))) (hQ : HQ k w o g e r d ps pb pc (fun x => keeps' (115 * j + x))) (hP : va_P D vwCl (W_X1 ca ap k w o g e r d ps pb pc) H) : KRel D ca A bL kept' kM' keeps' H := by
  obtain ⟨h1, h2⟩ := h
  refine ⟨fun i => if i = j then ap else ad i, fun i hi => ?_, fun i i' hi hi' hne hn hn' => ?_⟩
  · by_cases ei : i = j
    · subst ei
      right
      show kept' i = some ((if i = i then ap else ad i) 0) ∧ ¬ kM' i = 0 ∧ va_D A (dm (bL ++ aL8 (if i = i then ap else ad i))) ∧ PL D ca (if i = i then ap else ad i) (fun x => keeps' (115 * i + x)) H
      rw [if_pos rfl]
      exact ⟨hs, hmj, hDj, ⟨k, w, o, g, e, r, d, ps, pb, pc, hQ, hP⟩⟩
    · show (kept' i = none ∧ kM' i = 0) ∨ (kept' i = some ((if i = j then ap else ad i) 0) ∧ ¬ kM' i = 0 ∧ va_D A (dm (bL ++ aL8 (if i = j then ap else ad i))) ∧ PL D ca (if i = j then ap else ad i) (fun x => keeps' (115 * i + x)) H)
      rw [if_neg ei, hkept i ei, hkM i ei]
      rcases h1 i hi with h | ⟨a, b, c, k2, w2, o2, g2, e2, r2, d2, s2, b2, c2, hQ2, hP2⟩
      · exact Or.inl h
      · exact Or.inr ⟨a, b, c, k2, w2, o2, g2, e2, r2, d2, s2, b2, c2, hQ2.ext (fun x hx => hke i x ei hx), hP2⟩
  · by_cases ei : i = j
    · have ei' : i' ≠ j := fun z => hne (ei.trans z.symm)
      show va_D A (dm (aL8 (if i = j then ap else ad i) ++ aL8 (if i' = j then ap else ad i')))
      rw [if_pos ei, if_neg ei']
      exact dm_swap (hpj i' hi' ei' (by rw [← hkept i' ei']; exact hn'))
    · by_cases ei' : i' = j
      · show va_D A (dm (aL8 (if i = j then ap else ad i) ++ aL8 (if i' = j then ap else ad i')))
        rw [if_neg ei, if_pos ei']
        exact hpj i hi ei (by rw [← hkept i ei]; exact hn)
      · show va_D A (dm (aL8 (if i = j then ap else ad i) ++ aL8 (if i' = j then ap else ad i')))
        rw [if_neg ei, if_neg ei']
        exact h2 i i' hi hi' hne (by rw [← hkept i ei]; exact hn) (by rw [← hkept i' ei']; exact hn')
end KA
theorem PcI.preV {D : va_G} {ca : Nat → ClassId} {ws wc : va_W} {s : State} {H : Heap} {As : List Value} {b q0 ci : Nat} {q : vw_C} {fs : List Value} (hK : KX D ca s) (hPw : va_P D vwCl ws H) (hc : vwCl[ci]? = some q) (he : ws[q0]? = some (b, .inr (ci, fs))) (hP : va_P D vwCl wc H) (hD : va_D (fun _ => True) wc) : PreV s H q.1 b (PcI eT D ca H.size (.ref b :: As) wc) As := ⟨fun a U g mk q => ⟨q.1, q.2.1, q.2.2.1, KX.same (u := U) (U := U.calling g mk a) rfl q.2.2.2.1, q.2.2.2.2.1, trivial⟩, va_recv hK.1 hPw hc he, fun U hU hW => ⟨rfl, by rw [hU], by rw [hU]; exact hP, hK.warm hW, hD, trivial⟩⟩
theorem in3 {v : Int32} (h1 : ¬ v < 0) (h2 : ¬ nI 3 ≤ v) : vp_in v 3 := by
  have e1 : ¬ v.toInt < (0 : Int32).toInt := fun z => h1 (Int32.lt_iff_toInt_lt.mpr z)
  have e2 : ¬ (nI 3).toInt ≤ v.toInt := fun z => h2 (Int32.le_iff_toInt_le.mpr z)
  have z0 : (0 : Int32).toInt = 0 := rfl
  have z3 : (nI 3).toInt = 3 := nI_toInt (by decide)
  rw [z0] at e1
  rw [z3] at e2
  exact vp_in_iff.mpr ⟨by omega, by omega⟩
