/-! the law: what its loop keeps -/
section WK
variable {p : Program} {l : Launch} {e : Env} {R : Room} {s : State} {m : MethodId} {args : Array Value} {below : List Frame} {meth : Method} {c : Code} {H : Heap} {locs : List Loc} {cells slots : Nat} {Q : State → Prop}
variable {pc : Nat} {ls : Array Slot} {rest st0 : List Value} {a0 : Array Value} {D : va_G} {A : Nat → Prop} {ws wc : va_W} {H0 : Heap}
theorem wr_calliK {S : Type} {wd : S → va_W} {ws1 : S → va_W} {n : Nat} {wr : va_W} {post : Int32 → S → Prop} (hr : va_Run p l e R s m args below meth c H locs cells slots 0 0 (F0 m pc ls st0) rest (wrI D wc wd post a0) (adr wc))
    (hP : va_P D vwCl ws H) (hD : va_D A ws) (hS : va_S A H0 H locs) (isC isR : List Nat) (hC : isC.map (fun i => ws[i]?) = wc.map some) (hU : ∀ u, isC.map (fun i => (ws1 u)[i]?) = (wd u).map some) (hR0 : isR.map (fun i => ws[i]?) = wr.map some) (hR : ∀ u, isR.map (fun i => (ws1 u)[i]?) = wr.map some) (hlen : ∀ u, (ws1 u).length = n) (hadr : ∀ u, (ws1 u).map Prod.fst = ws.map Prod.fst) (hcov : ∀ k, k < n → k ∈ isC ∨ k ∈ isR) (hdis : ∀ i ∈ isR, i ∉ isC)
    (kk : ∀ (r : Int32) (u : S) (H1 : Heap) (locs1 : List Loc), post r u → va_P D vwCl (ws1 u) H1 → va_D A (ws1 u) → va_S A H0 H1 locs1 → (∀ q : Nat, q < H.size → ¬ q ∈ ws.map Prod.fst → H1[q]? = H[q]?) → W p l e R s m args below meth c H1 locs1 cells slots Q (F0 m (pc + 3) ls (.int r :: rest))) : W p l e R s m args below meth c H locs cells slots Q (F0 m pc ls st0) := by
  intro T hT X
  obtain ⟨v, st₀, t, T', L, h0, X', hL, e1, -, ⟨⟨r, u, hv, hp, hb⟩, hz, hk⟩, st⟩ := hr T hT X
  cases hv
  rw [h0] at hz hk
  rw [← e1] at hz hk hb
  obtain ⟨hP1, hD1⟩ := up_PD hP hD isC isR hC (hU u) hR0 (hR u) (hlen u) hcov hdis (hadr u) hk hb
  have hkK : ∀ q : Nat, q < H.size → ¬ q ∈ ws.map Prod.fst → T'.heap[q]? = H[q]? := fun q hq hn => hk q hq fun ha => by
    obtain ⟨i, e, -, h2, h3⟩ := adr_in isC hC ha
    exact hn (List.mem_map.mpr ⟨e, List.mem_of_getElem? h2, h3⟩)
  obtain ⟨t2, a1, b1⟩ := kk r u T'.heap (locs ++ L) hp hP1 hD1 (hS.call (adr_sub hD isC hC) hz hk hL) hkK T' rfl X'
  exact ⟨t2, st t2 a1, b1⟩
end WK
theorem lg_self (x : Int64) : lg_cmp x x = 0 := by
  unfold lg_cmp
  rw [if_neg (by simp), if_pos rfl]
/-- cells of which only the address is told -/
def dm (L : List Nat) : va_W := L.map (fun q => (q, .inr (0, [])))
theorem dm_fst (L : List Nat) : (dm L).map Prod.fst = L := by
  unfold dm
  rw [List.map_map]
  exact List.map_id L
theorem dm_of {A : Nat → Prop} {w : va_W} {L : List Nat} (h : va_D A w) (hL : w.map Prod.fst = L) : va_D A (dm L) := h.same (by rw [dm_fst, hL])
theorem dm_to {A : Nat → Prop} {w : va_W} {L : List Nat} (h : va_D A (dm L)) (hL : w.map Prod.fst = L) : va_D A w := h.same (by rw [dm_fst, hL])
def aL8 (ap : Nat → Nat) : List Nat := [ap 0, ap 1, ap 2, ap 3, ap 4, ap 5, ap 6, ap 7]
theorem dm_apart {A : Nat → Prop} {L M : List Nat} (h : va_D A (dm (L ++ M))) {x : Nat} (hM : x ∈ M) : ¬ x ∈ L := by
  intro hx
  obtain ⟨i, hi⟩ := List.getElem?_of_mem hx
  obtain ⟨j, hj⟩ := List.getElem?_of_mem hM
  have hi2 : i < L.length := (List.getElem?_eq_some_iff.mp hi).1
  have e1 : (dm (L ++ M))[i]? = some (x, .inr (0, [])) := by
    unfold dm
    rw [List.getElem?_map, List.getElem?_append_left hi2, hi]; rfl
  have e2 : (dm (L ++ M))[L.length + j]? = some (x, .inr (0, [])) := by
    unfold dm
    rw [List.getElem?_map, List.getElem?_append_right (by omega), Nat.add_sub_cancel_left, hj]; rfl
  have := h.1 i (L.length + j) _ _ e1 e2 rfl
  omega
theorem dm_in {A : Nat → Prop} {L : List Nat} (h : va_D A (dm L)) {x : Nat} (hx : x ∈ L) : A x := by
  obtain ⟨i, hi⟩ := List.getElem?_of_mem hx
  exact h.2 i (x, .inr (0, [])) (by unfold dm; rw [List.getElem?_map, hi]; rfl)
/-- lists of addresses: apart, and of a kind -/
theorem dm_mk {A : Nat → Prop} {L : List Nat} (h1 : L.Nodup) (h2 : ∀ x ∈ L, A x) : va_D A (dm L) := by
  refine ⟨fun i j x y hi hj hxy => ?_, fun k q hk => ?_⟩
  · unfold dm at hi hj
    rw [List.getElem?_map] at hi hj
    cases hi' : L[i]? with
    | none => rw [hi'] at hi; cases hi
    | some a =>
      cases hj' : L[j]? with
      | none => rw [hj'] at hj; cases hj
      | some b =>
        rw [hi'] at hi; rw [hj'] at hj
        cases hi; cases hj
        have hab : a = b := hxy
        subst hab
        have li := (List.getElem?_eq_some_iff.mp hi').1
        exact (List.getElem?_inj li h1).mp (hi'.trans hj'.symm)
  · unfold dm at hk
    rw [List.getElem?_map] at hk
    cases hk' : L[k]? with
    | none => rw [hk'] at hk; cases hk
    | some a => rw [hk'] at hk; cases hk; exact h2 a (List.mem_of_getElem? hk')
theorem dm_nodup {A : Nat → Prop} {L : List Nat} (h : va_D A (dm L)) : L.Nodup := by
  unfold List.Nodup
  rw [List.pairwise_iff_getElem]
  intro i j hi hj hij heq
  have := h.1 i j (L[i], .inr (0, [])) (L[j], .inr (0, [])) (by unfold dm; rw [List.getElem?_map, List.getElem?_eq_getElem hi]; rfl) (by unfold dm; rw [List.getElem?_map, List.getElem?_eq_getElem hj]; rfl) heq
  omega
/-- a kept heap lies there, and is the reference's -/
def PL (D : va_G) (ca : Nat → ClassId) (ap : Nat → Nat) (kk : Nat → Int32) (H : Heap) : Prop := ∃ (pk pw po pg pe pr pd : Nat → Int32) (ps pb pc : Int32), HQ pk pw po pg pe pr pd ps pb pc kk ∧ va_P D vwCl (W_X1 ca ap pk pw po pg pe pr pd ps pb pc) H
theorem PL.lt {D : va_G} {ca : Nat → ClassId} {ap : Nat → Nat} {kk : Nat → Int32} {H : Heap} (h : PL D ca ap kk H) : ∀ q ∈ aL8 ap, q < H.size := by
  obtain ⟨pk, pw, po, pg, pe, pr, pd, ps, pb, pc, -, hP⟩ := h
  intro q hq
  have e : (W_X1 ca ap pk pw po pg pe pr pd ps pb pc).map Prod.fst = aL8 ap := rfl
  rw [← e] at hq
  obtain ⟨x, hx, rfl⟩ := List.mem_map.mp hq
  obtain ⟨i, hi⟩ := List.getElem?_of_mem hx
  exact (hP i x hi).lt
theorem PL.kept {D : va_G} {ca : Nat → ClassId} {ap : Nat → Nat} {kk : Nat → Int32} {H H1 : Heap} (h : PL D ca ap kk H) (hk : ∀ q ∈ aL8 ap, H1[q]? = H[q]?) : PL D ca ap kk H1 := by
  obtain ⟨pk, pw, po, pg, pe, pr, pd, ps, pb, pc, hQ, hP⟩ := h
  refine ⟨pk, pw, po, pg, pe, pr, pd, ps, pb, pc, hQ, hP.kept fun k q hq => hk _ ?_⟩
  have e : (W_X1 ca ap pk pw po pg pe pr pd ps pb pc).map Prod.fst = aL8 ap := rfl
  rw [← e]
  exact List.mem_map.mpr ⟨q, List.mem_of_getElem? hq, rfl⟩
/-- the kept heaps, all three places: bL are the addresses of all else -/
def KRel (D : va_G) (ca : Nat → ClassId) (A : Nat → Prop) (bL : List Nat) (kept : Nat → Option Nat) (kM keeps : Nat → Int32) (H : Heap) : Prop := ∃ ad : Nat → Nat → Nat, (∀ k, k < 3 → (kept k = none ∧ kM k = 0) ∨ (kept k = some (ad k 0) ∧ ¬ kM k = 0 ∧ va_D A (dm (bL ++ aL8 (ad k))) ∧ PL D ca (ad k) (fun x => keeps (115 * k + x)) H)) ∧ ∀ k k', k < 3 → k' < 3 → k ≠ k' → ¬ kept k = none → ¬ kept k' = none → va_D A (dm (aL8 (ad k) ++ aL8 (ad k')))
theorem KRel.frame {D : va_G} {ca : Nat → ClassId} {A : Nat → Prop} {bL : List Nat} {kept : Nat → Option Nat} {kM keeps : Nat → Int32} {H H1 : Heap} (h : KRel D ca A bL kept kM keeps H) (hk : ∀ q : Nat, q < H.size → ¬ q ∈ bL → H1[q]? = H[q]?) : KRel D ca A bL kept kM keeps H1 := by
  obtain ⟨ad, h1, h2⟩ := h
  refine ⟨ad, fun k hk3 => ?_, h2⟩
  rcases h1 k hk3 with h | ⟨a, b, c, d⟩
  · exact Or.inl h
  · exact Or.inr ⟨a, b, c, d.kept fun q hq => hk q (d.lt q hq) (dm_apart c hq)⟩
theorem KRel.nil {D : va_G} {ca : Nat → ClassId} {A : Nat → Prop} {bL : List Nat} {kept : Nat → Option Nat} {kM keeps : Nat → Int32} {H : Heap} (h : ∀ k, k < 3 → kept k = none ∧ kM k = 0) : KRel D ca A bL kept kM keeps H := ⟨fun _ _ => 0, fun k hk => Or.inl (h k hk), fun k k' hk _ _ hn _ => absurd (h k hk).1 hn⟩
theorem KRel.KP {D : va_G} {ca : Nat → ClassId} {A : Nat → Prop} {bL : List Nat} {kept : Nat → Option Nat} {kM keeps : Nat → Int32} {H : Heap} (h : KRel D ca A bL kept kM keeps H) : KP kept kM := by
  obtain ⟨ad, h1, -⟩ := h
  intro k hk
  rcases h1 k hk with ⟨a, b⟩ | ⟨a, b, -⟩
  · simp [a, b]
  · simp [a, b]
/-- what digest() asks of the kept heaps -/
theorem KRel.KQ {D : va_G} {ca : Nat → ClassId} {A : Nat → Prop} {bL : List Nat} {kept : Nat → Option Nat} {kM keeps : Nat → Int32} {H : Heap} (h : KRel D ca A bL kept kM keeps H) : KQ D ca kept (fun k => keeps (115 * k + 1)) H := by
  obtain ⟨ad, h1, -⟩ := h
  intro k hk y hy
  rcases h1 k hk with ⟨a, b⟩ | ⟨a, b, c, pk, pw, po, pg, pe, pr, pd, ps, pb, pc, hQ, hP⟩
  · rw [a] at hy; cases hy
  · rw [a] at hy
    cases hy
    obtain ⟨n, s, dn, h, e1, e2, e3, hPh⟩ := hQ
    have e4 : keeps (115 * k + 1) = nI dn := hPh.2.2.2.2.2.1
    refine ⟨ad k, pk, pw, po, pg, pe, pr, pd, ps, pb, rfl, ?_⟩
    show va_P D vwCl (W_X1 ca (ad k) pk pw po pg pe pr pd ps pb (keeps (115 * k + 1))) H
    rw [e4, ← e3]
    exact hP
theorem KRel.KD {D : va_G} {ca : Nat → ClassId} {A : Nat → Prop} {bL : List Nat} {kept : Nat → Option Nat} {kM keeps : Nat → Int32} {H : Heap} (h : KRel D ca A bL kept kM keeps H) : ∀ k, k < 3 → (kept k = none ∧ kM k = 0) ∨ (¬ kept k = none ∧ ¬ kM k = 0 ∧ (fun k => keeps (115 * k + 1)) k = keeps (115 * k + 1)) := by
  obtain ⟨ad, h1, -⟩ := h
  intro k hk
  rcases h1 k hk with ⟨a, b⟩ | ⟨a, b, -⟩
  · exact Or.inl ⟨a, b⟩
  · exact Or.inr ⟨(by rw [a]; exact fun z => nomatch z), b, rfl⟩
