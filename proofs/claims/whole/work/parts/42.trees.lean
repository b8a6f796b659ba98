/-! the trees and their sizes -/
section TR
variable {n : Nat} {h : Nat → Nat → Nat}
/-- in the closure -/
theorem with_tb (hW : HW n h) (s b : Nat) : ∀ k, k ≤ n → ∀ e, e < n → ((withF h s k b).testBit e = true ↔ (b.testBit e = true ∨ (e < k ∧ s.testBit e = true ∧ aheadB h s e = true ∧ (withF h s e b).testBit (h 5 e - 1) = true))) := by
  have hn := hW.1
  intro k
  induction k with
  | zero => intro _ e _; simp [withF]
  | succ k ih =>
    intro hk e he
    have i1 := ih (by omega) e he
    simp only [withF]
    by_cases c : (s.testBit k && (aheadB h s k && (withF h s k b).testBit (h 5 k - 1))) = true
    · rw [if_pos c, Nat.testBit_or, Nat.testBit_two_pow, Bool.or_eq_true, i1]
      simp at c
      by_cases ek : k = e
      · subst ek
        simp [c]
      · have : (decide (k = e)) = false := by simpa using ek
        rw [this]
        constructor
        · rintro (d | d)
          · rcases d with d | d
            · exact Or.inl d
            · exact Or.inr ⟨by omega, d.2⟩
          · simp at d
        · rintro (d | d)
          · exact Or.inl (Or.inl d)
          · exact Or.inl (Or.inr ⟨by omega, d.2⟩)
    · rw [if_neg c, i1]
      constructor
      · rintro (d | d)
        · exact Or.inl d
        · exact Or.inr ⟨by omega, d.2⟩
      · rintro (d | d)
        · exact Or.inl d
        · refine Or.inr ⟨?_, d.2⟩
          by_cases ek : e = k
          · subst ek
            exact absurd (by simp [d.2.1, d.2.2.1, d.2.2.2]) c
          · omega
theorem with_st (hW : HW n h) (s b : Nat) {k e : Nat} (hk : k ≤ n) (he : e < k) : (withF h s k b).testBit e = true ↔ (withF h s n b).testBit e = true := by
  rw [with_tb hW s b k hk e (by omega), with_tb hW s b n (Nat.le_refl n) e (by omega)]
  constructor
  · rintro (d | d)
    · exact Or.inl d
    · exact Or.inr ⟨by omega, d.2⟩
  · rintro (d | d)
    · exact Or.inl d
    · exact Or.inr ⟨he, d.2⟩
/-- the tree of i, in t -/
def tr (n : Nat) (h : Nat → Nat → Nat) (t i : Nat) : Nat := withF h t n (2 ^ i)
theorem tr_tb (hW : HW n h) (t i : Nat) {e : Nat} (he : e < n) : (tr n h t i).testBit e = true ↔ (e = i ∨ (t.testBit e = true ∧ aheadB h t e = true ∧ (tr n h t i).testBit (h 5 e - 1) = true)) := by
  unfold tr
  rw [with_tb hW t (2 ^ i) n (Nat.le_refl n) e he, Nat.testBit_two_pow]
  have h5 := hW.an he
  constructor
  · rintro (d | ⟨_, d1, d2, d3⟩)
    · have : i = e := by simpa using d
      exact Or.inl this.symm
    · have := ((ahead_iff h t e).mp d2).1
      exact Or.inr ⟨d1, d2, (with_st hW t (2 ^ i) (by omega) (by omega)).mp d3⟩
  · rintro (d | ⟨d1, d2, d3⟩)
    · subst d; left; simp
    · have := ((ahead_iff h t e).mp d2).1
      exact Or.inr ⟨he, d1, d2, (with_st hW t (2 ^ i) (by omega) (by omega)).mpr d3⟩
theorem tr_lt (hW : HW n h) (t : Nat) {i : Nat} (hi : i < n) : tr n h t i < 4096 := withF_lt h t hW.1 (pw_lt (n := 12) (by have := hW.1; omega))
/-- the root of k, in t -/
def ro (h : Nat → Nat → Nat) (t : Nat) : Nat → Nat → Nat
  | 0, k => k
  | f + 1, k => if aheadB h t k then ro h t f (h 5 k - 1) else k
theorem ro_is (hW : HW n h) (t : Nat) : ∀ f k, k ≤ f → k < n → ro h t f k ≤ k ∧ ¬ aheadB h t (ro h t f k) = true ∧ (t.testBit k = true → t.testBit (ro h t f k) = true) := by
  intro f
  induction f with
  | zero =>
    intro k hk hkn
    have : k = 0 := by omega
    subst this
    refine ⟨Nat.le_refl _, fun a => ?_, id⟩
    have h5 := hW.an hkn
    have := ((ahead_iff h t 0).mp a).1
    omega
  | succ f ih =>
    intro k hk hkn
    have h5 := hW.an hkn
    simp only [ro]
    by_cases a : aheadB h t k = true
    · rw [if_pos a]
      obtain ⟨a1, a2, a3⟩ := (ahead_iff h t k).mp a
      obtain ⟨b1, b2, b3⟩ := ih (h 5 k - 1) (by omega) (by omega)
      exact ⟨by omega, b2, fun _ => b3 a2⟩
    · rw [if_neg a]
      exact ⟨Nat.le_refl _, a, id⟩
theorem ro_st (hW : HW n h) (t : Nat) : ∀ f f' k, k ≤ f → k ≤ f' → k < n → ro h t f k = ro h t f' k := by
  intro f
  induction f with
  | zero =>
    intro f' k h1 h2 h3
    have : k = 0 := by omega
    subst this
    have h5 := hW.an h3
    cases f' with
    | zero => rfl
    | succ f' =>
      have a : ¬ aheadB h t 0 = true := fun a => by have := ((ahead_iff h t 0).mp a).1; omega
      simp [ro, a]
  | succ f ih =>
    intro f' k h1 h2 h3
    have h5 := hW.an h3
    cases f' with
    | zero =>
      have : k = 0 := by omega
      subst this
      have a : ¬ aheadB h t 0 = true := fun a => by have := ((ahead_iff h t 0).mp a).1; omega
      simp [ro, a]
    | succ f' =>
      simp only [ro]
      by_cases a : aheadB h t k = true
      · have := ((ahead_iff h t k).mp a).1
        rw [if_pos a, if_pos a]
        exact ih f' _ (by omega) (by omega) (by omega)
      · rw [if_neg a, if_neg a]
/-- a root's tree: those whose root it is -/
theorem tr_root (hW : HW n h) {t r : Nat} (hr : rtB h t r = true) : ∀ N k, k < N → k < n → ((tr n h t r).testBit k = true ↔ t.testBit k = true ∧ ro h t 12 k = r) := by
  have hn := hW.1
  obtain ⟨r1, r2⟩ := (rt_iff h t r).mp hr
  intro N
  induction N with
  | zero => intro k hk; omega
  | succ N ih =>
    intro k hk hkn
    have h5 := hW.an hkn
    rw [tr_tb hW t r hkn]
    by_cases a : aheadB h t k = true
    · obtain ⟨a1, a2, a3⟩ := (ahead_iff h t k).mp a
      have e : ro h t 12 k = ro h t 12 (h 5 k - 1) := by
        show (if aheadB h t k = true then ro h t 11 (h 5 k - 1) else k) = _
        rw [if_pos a]
        exact ro_st hW t 11 12 _ (by omega) (by omega) (by omega)
      rw [ih (h 5 k - 1) (by omega) (by omega), e]
      constructor
      · rintro (d | d)
        · subst d; exact absurd a r2
        · exact ⟨d.1, d.2.2.2⟩
      · rintro ⟨d1, d2⟩
        exact Or.inr ⟨d1, a, a2, d2⟩
    · have e : ro h t 12 k = k := by
        show (if aheadB h t k = true then ro h t 11 (h 5 k - 1) else k) = k
        rw [if_neg a]
      rw [e]
      constructor
      · rintro (d | d)
        · subst d; exact ⟨r1, rfl⟩
        · exact absurd d.2.1 a
      · rintro ⟨d1, d2⟩
        exact Or.inl d2
theorem pc_cn (hn : n ≤ 12) {s : Nat} (hs : s < 2 ^ n) : pc s = cn n (fun e => s.testBit e) := cn_ext hn fun e he => lt_tb hs he
theorem sumI (P : Nat → Bool) : ∀ m i, i < m → sumM m P (fun k => if (true && i == k) = true then 1 else 0) = if P i = true then 1 else 0 := by
  intro m
  induction m with
  | zero => intro i hi; omega
  | succ m ih =>
    intro i hi
    rw [sumM_s]
    by_cases e : i = m
    · subst e
      rw [sum_zero (fun k hk _ => by simp; omega)]
      simp
    · rw [ih i (by omega)]
      simp [e]
theorem sum_cn (P Q : Nat → Bool) (ρ : Nat → Nat) : ∀ m, (∀ k, k < m → Q k = true → ρ k < n) → sumM n P (fun r => cn m (fun k => Q k && ρ k == r)) = cn m (fun k => Q k && P (ρ k)) := by
  intro m
  induction m with
  | zero => intro _; exact sum_zero (fun _ _ _ => rfl)
  | succ m ih =>
    intro hq
    have e : (fun r => cn (m + 1) (fun k => Q k && ρ k == r)) = fun r => cn m (fun k => Q k && ρ k == r) + (if (Q m && ρ m == r) = true then 1 else 0) := rfl
    rw [e, sum_add, ih (fun k hk => hq k (by omega))]
    show _ = cn m (fun k => Q k && P (ρ k)) + (if (Q m && P (ρ m)) = true then 1 else 0)
    congr 1
    cases c : Q m with
    | false => simp; exact sum_zero (fun _ _ _ => rfl)
    | true =>
      have hl := hq m (by omega) c
      rw [sumI P n _ hl]
      simp
end TR
