/-! fault, heap: the class answers as the reference -/
theorem nar_z : vp_nar .boolean (0 : Int32) = 0 := by decide
theorem nar_o : vp_nar .boolean (1 : Int32) = 1 := by decide
theorem e_copies {fn tn i j : Nat} (hi : i + 115 ≤ fn) (hj : j + 115 ≤ tn) (hf : fn < 1000) (hg : tn < 1000) (f g : Nat → Int32) (post : (Nat → Int32) → Prop) : wp_X8_copies fn f tn g (nI i) (nI j) post = post (va_cpy f g i j 115) := by
  unfold wp_X8_copies
  have z115 : (115 : Int32) = nI 115 := rfl
  have e0 : va_cpy f g i j 0 = g := by funext x; unfold va_cpy; rw [if_neg (by omega)]
  have q := lpG (σ := (Nat → Int32) × Int32) (fun K x => wb_X8_copies_3 fn f tn (nI i) (nI j) post (fun a b => K (a, b)) x.1 x.2) (fun z x => wl_X8_copies_3 fn f tn (nI i) (nI j) post z x.1 x.2) (fun _ => rfl) (fun _ _ => rfl) 115 (fun k => (va_cpy f g i j k, nI k)) (post (va_cpy f g i j 115)) ?_ ?_
  · simp only [e0] at q
    exact q
  · intro k K hk
    have c : ¬ 115 ≤ k := by omega
    show wb_X8_copies_3 fn f tn (nI i) (nI j) post (fun a b => K (a, b)) (va_cpy f g i j k) (nI k) = K (va_cpy f g i j (k + 1), nI (k + 1))
    have e1 : upd (va_cpy f g i j k) (j + k) (f (i + k)) = va_cpy f g i j (k + 1) := by
      funext x
      unfold upd va_cpy
      by_cases h1 : x = j + k
      · rw [if_pos h1, if_pos (by omega)]
        congr 1; omega
      · rw [if_neg h1]
        by_cases h2 : j ≤ x ∧ x < j + k
        · rw [if_pos h2, if_pos (by omega)]
        · rw [if_neg h2, if_neg (by omega)]
    simp (disch := omega) only [wb_X8_copies_3, z115, q_le, c, nI_add, q_in, q_cl, nI_1, e1]
    simp
  · intro K
    show wb_X8_copies_3 fn f tn (nI i) (nI j) post (fun a b => K (a, b)) _ (nI 115) = _
    simp (disch := omega) only [wb_X8_copies_3, z115, q_le]
    simp
theorem cpy0 {f g : Nat → Int32} {n j : Nat} (h : j < n) : va_cpy f g 0 0 n j = f j := by
  unfold va_cpy
  rw [if_pos (by omega)]
  congr 1; omega
theorem HR.cpy {kinds whos toWhoms topics weights answered k0 w0 o0 g0 e0 r0 : Nat → Int32} {n : Nat} {h : Nat → Nat → Nat} (hR : HR kinds whos toWhoms topics weights answered n h) (hn : n ≤ 12) : HR (va_cpy kinds k0 0 0 12) (va_cpy whos w0 0 0 12) (va_cpy toWhoms o0 0 0 12) (va_cpy topics g0 0 0 12) (va_cpy weights e0 0 0 12) (va_cpy answered r0 0 0 12) n h := fun j hj => by
  rw [cpy0 (by omega), cpy0 (by omega), cpy0 (by omega), cpy0 (by omega), cpy0 (by omega), cpy0 (by omega)]
  exact hR j hj
section FT
variable {m : Nat → Nat} {ts tc tS tw of fs : Nat → Int32} {la fi : Int32}
theorem s_fault (hS : SH 4 80 m ts tc tS tw) (hT : TL of la fs fi) (k w o g e r rd : Nat → Int32) (sz sb dc at_ t : Int32) : wp_X7_fault 4 320 (nI 80) ts tc k w o g e r sz sb dc of la t (fun a _ _ _ _ _ _ _ _ _ of' la' => wp_X8_fault tS tw fi fs rd at_ t (fun a' fi' fs' _ _ => a = a' ∧ TL of' la' fs' fi')) := by
  rcases pk_ix t (n := 4) (by decide) with ht | ht | ⟨t, ht, rfl⟩
  · simp only [wp_X7_fault, e7_bad (k := 4) (Or.inl ht), wp_X8_fault, e8_textN (Or.inl ht), n_m1]
    simp [hT]
  · simp only [wp_X7_fault, e7_bad (k := 4) (Or.inr ht), wp_X8_fault, e8_textN (Or.inr ht), n_m1]
    simp [hT]
  obtain ⟨a, b, c, d⟩ := hS t ht
  cases hm : m t with
  | zero =>
    rw [hm] at b c
    simp (disch := omega) only [wp_X7_fault, e7_miss ht (by decide) b, wp_X8_fault, e8_textY, q_in, q_cl, c, q_szp, n_m3, n_1, show (1 : Int32) = nI 1 from rfl, e8_found]
    simp [show nI 1 = 1 from rfl]
    exact hT.note (by omega) (by omega)
  | succ q =>
    rw [hm] at a b c
    obtain ⟨x, k', w', o', g', e', r', rd', n', at', hE, hC, hMo⟩ := e_read hS ht hm k w o g e r rd at_
    simp (disch := omega) only [wp_X7_fault, e7_is ht (by decide) (show q < 2 ^ 30 by omega) b, hC, wp_X8_fault, e8_textY, q_in, q_cl, c, q_szp, n_1, hMo]
    simp
    exact hT
theorem s_heap {kinds whos toWhoms topics weights answered deeds now : Nat → Int32} {n s dn : Nat} {h : Nat → Nat → Nat} (hP : HP kinds whos toWhoms topics weights answered deeds now n s dn h) (hS : SH 4 80 m ts tc tS tw) (hT : TL of la fs fi) (k w o g e r dd rd : Nat → Int32) (sz sb dc at_ : Int32) (kept : Nat → Option Nat) (kM : Nat → Int32) (t : Int32) : wp_X7_heap 4 320 (nI 80) ts tc kinds whos toWhoms topics weights answered deeds (nI n) (nI s) (nI dn) k w o g e r dd sz sb dc kept of la t (fun a hk hw ho hg he hr hd hs hb hc _ _ _ _ _ _ _ _ _ kept' of' la' => wp_X8_heap tS tw now kM fi fs rd at_ t (fun a' now' kM' fi' fs' _ _ => a = a' ∧ TL of' la' fs' fi' ∧ HQ hk hw ho hg he hr hd hs hb hc now' ∧ ((kept' = kept ∧ kM' = kM) ∨ ∀ j, j < 3 → kept' j = none ∧ kM' j = 0))) := by
  have hQ : HQ kinds whos toWhoms topics weights answered deeds (nI n) (nI s) (nI dn) now := ⟨n, s, dn, h, rfl, rfl, rfl, hP⟩
  rcases pk_ix t (n := 4) (by decide) with ht | ht | ⟨t, ht, rfl⟩
  · simp only [wp_X7_heap, e7_bad (k := 4) (Or.inl ht), wp_X8_heap, e8_textN (Or.inl ht), n_m1]
    simp
    exact ⟨hT, hQ⟩
  · simp only [wp_X7_heap, e7_bad (k := 4) (Or.inr ht), wp_X8_heap, e8_textN (Or.inr ht), n_m1]
    simp
    exact ⟨hT, hQ⟩
  obtain ⟨a, b, c, d⟩ := hS t ht
  cases hm : m t with
  | zero =>
    rw [hm] at b c
    simp (disch := omega) only [wp_X7_heap, e7_miss ht (by decide) b, wp_X8_heap, e8_textY, q_in, q_cl, c, q_szp, n_m3, n_1, show (1 : Int32) = nI 1 from rfl, e8_found]
    simp [show nI 1 = 1 from rfl]
    exact ⟨hT.note (by omega) (by omega), hQ⟩
  | succ q =>
    rw [hm] at a b c
    obtain ⟨x, k', w', o', g', e', r', rd', n', at', hE, hC, hMo⟩ := e_read hS ht hm k w o g e r rd at_
    rcases hE with ⟨f, hf, rfl⟩ | ⟨rfl, h', hR', hM', hW', h1', h2'⟩
    · have ne9 : (nI f = -9) = False := eq_false fun z => nI_pos (n := f) (by omega) (by rw [z]; decide)
      simp (disch := omega) only [wp_X7_heap, e7_is ht (by decide) (show q < 2 ^ 30 by omega) b, hC, wp_X8_heap, e8_textY, q_in, q_cl, c, q_szp, n_1, hMo, ne9]
      simp
      exact ⟨hT, hQ⟩
    · have z3 : (3 : Int32) = nI 3 := rfl
      have L7 : ∀ post hk hw ho hg he hr hd hs hb hc k w o g e r sz sb dc of la, (∃ zn, wl_X7_heap_49 post zn hk hw ho hg he hr hd hs hb hc k w o g e r sz sb dc kept of la 0) = post hs hk hw ho hg he hr hd hs hb hc k w o g e r sz sb dc (va_up (va_up (va_up kept 0 none) 1 none) 2 none) of la := by
        intro post hk hw ho hg he hr hd hs hb hc k w o g e r sz sb dc of la
        have q := lpG (σ := (Nat → Option Nat) × Int32) (fun K x => wb_X7_heap_49 post (fun _ _ _ _ _ _ _ _ _ _ _ _ _ _ _ _ _ _ _ y _ _ z => K (y, z)) hk hw ho hg he hr hd hs hb hc k w o g e r sz sb dc x.1 of la x.2) (fun z x => wl_X7_heap_49 post z hk hw ho hg he hr hd hs hb hc k w o g e r sz sb dc x.1 of la x.2) (fun _ => rfl) (fun z x => by
          show wb_X7_heap_49 post (wl_X7_heap_49 post z) hk hw ho hg he hr hd hs hb hc k w o g e r sz sb dc x.1 of la x.2 = _
          unfold wb_X7_heap_49
          rfl) 3 (fun j => ((match j with | 0 => kept | 1 => va_up kept 0 none | 2 => va_up (va_up kept 0 none) 1 none | _ => va_up (va_up (va_up kept 0 none) 1 none) 2 none), nI j)) (post hs hk hw ho hg he hr hd hs hb hc k w o g e r sz sb dc (va_up (va_up (va_up kept 0 none) 1 none) 2 none) of la) ?_ ?_
        · exact q
        · intro j K hj
          have nj : ¬ 3 ≤ j := by omega
          rcases (show j = 0 ∨ j = 1 ∨ j = 2 by omega) with rfl | rfl | rfl <;>
          · simp (disch := omega) only [wb_X7_heap_49, z3, q_le, q_in, q_cl, nI_1]
            simp
        · intro K
          simp (disch := omega) only [wb_X7_heap_49, z3, q_le, wp_X1_howMany]
          simp
      have L8 : ∀ post now fi fs rd at_, (∃ zn, wl_X8_heap_52 post zn now kM fi fs rd at_ 0) = post (now 0) now (upd (upd (upd kM 0 0) 1 0) 2 0) fi fs rd at_ := by
        intro post now fi fs rd at_
        have q := lpG (σ := (Nat → Int32) × Int32) (fun K x => wb_X8_heap_52 post (fun _ y _ _ _ _ z => K (y, z)) now x.1 fi fs rd at_ x.2) (fun z x => wl_X8_heap_52 post z now x.1 fi fs rd at_ x.2) (fun _ => rfl) (fun z x => by
          show wb_X8_heap_52 post (wl_X8_heap_52 post z) now x.1 fi fs rd at_ x.2 = _
          unfold wb_X8_heap_52
          rfl) 3 (fun j => ((match j with | 0 => kM | 1 => upd kM 0 0 | 2 => upd (upd kM 0 0) 1 0 | _ => upd (upd (upd kM 0 0) 1 0) 2 0), nI j)) (post (now 0) now (upd (upd (upd kM 0 0) 1 0) 2 0) fi fs rd at_) ?_ ?_
        · exact q
        · intro j K hj
          rcases (show j = 0 ∨ j = 1 ∨ j = 2 by omega) with rfl | rfl | rfl <;>
          · simp (disch := omega) only [wb_X8_heap_52, z3, q_le, q_in, q_cl, nI_1, nar_z]
            simp
        · intro K
          simp (disch := omega) only [wb_X8_heap_52, z3, q_le]
          simp
      have n9 : ((-9 : Int32) = -9) = True := by decide
      have hn' := hW'.1
      have c00 : ∀ post, wp_X8_copies 115 rd' 115 now 0 0 post = post (va_cpy rd' now 0 0 115) := fun post => e_copies (i := 0) (j := 0) (by omega) (by omega) (by omega) (by omega) rd' now post
      simp (disch := omega) only [wp_X7_heap, e7_is ht (by decide) (show q < 2 ^ 30 by omega) b, hC, wp_X8_heap, e8_textY, q_in, q_cl, c, q_szp, n_1, hMo, n9, wp_X1_becomeLike, L7, c00, L8]
      simp
      refine ⟨?_, hT, ?_, Or.inr fun j hj => ?_⟩
      · rw [cpy0 (by omega)]; exact hM'.1.symm
      · refine ⟨n', 2 ^ n' - 1, 0, h', rfl, rfl, rfl, hR'.cpy hn', ?_, hW', ?_, by omega, ?_, ?_, trivial⟩
        · refine ⟨by rw [cpy0 (by omega)]; exact hM'.1, fun j hj => ?_⟩
          rw [cpy0 (by omega), cpy0 (by omega), cpy0 (by omega), cpy0 (by omega), cpy0 (by omega), cpy0 (by omega)]
          exact hM'.2 j hj
        · have := Nat.one_le_two_pow (n := n'); omega
        · rw [cpy0 (by omega)]; exact h1'
        · rw [cpy0 (by omega)]; exact h2'
      · rcases (show j = 0 ∨ j = 1 ∨ j = 2 by omega) with rfl | rfl | rfl <;> exact ⟨rfl, rfl⟩
end FT
