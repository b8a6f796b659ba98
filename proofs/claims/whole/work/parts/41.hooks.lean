/-! orders: those counted by the first to go are those counted by the last, and the trees' sizes tell how many -/
theorem sumM_s (n : Nat) (P : Nat → Bool) (f : Nat → Nat) : sumM (n + 1) P f = sumM n P f + (if P n then f n else 0) := by
  simp only [sumM]; split <;> simp
theorem sum_if (n : Nat) (P : Nat → Bool) (f : Nat → Nat) : sumM n P f = sumM n (fun _ => true) (fun k => if P k then f k else 0) := by
  induction n with
  | zero => rfl
  | succ n ih => rw [sumM_s, sumM_s, ih]; simp
theorem sum_add (n : Nat) (P : Nat → Bool) (f g : Nat → Nat) : sumM n P (fun k => f k + g k) = sumM n P f + sumM n P g := by
  induction n with
  | zero => rfl
  | succ n ih => rw [sumM_s, sumM_s, sumM_s, ih]; split <;> omega
theorem sum_zero {n : Nat} {P : Nat → Bool} {f : Nat → Nat} (h : ∀ k, k < n → P k = true → f k = 0) : sumM n P f = 0 := by
  induction n with
  | zero => rfl
  | succ n ih =>
    rw [sumM_s, ih (fun k hk => h k (by omega))]
    by_cases c : P n = true
    · rw [if_pos c, h n (by omega) c]
    · rw [if_neg c]
theorem sum_cg {n : Nat} {P Q : Nat → Bool} {f g : Nat → Nat} (h : ∀ k, k < n → P k = Q k) (hf : ∀ k, k < n → P k = true → f k = g k) : sumM n P f = sumM n Q g := by
  induction n with
  | zero => rfl
  | succ n ih =>
    rw [sumM_s, sumM_s, ih (fun k hk => h k (by omega)) (fun k hk => hf k (by omega)), ← h n (by omega)]
    by_cases c : P n = true
    · rw [if_pos c, if_pos c, hf n (by omega) c]
    · rw [if_neg c, if_neg c]
theorem sum_one {n i : Nat} {P : Nat → Bool} {f : Nat → Nat} (hi : i < n) (hp : P i = true) (ho : ∀ k, k < n → k ≠ i → P k = false) : sumM n P f = f i := by
  induction n with
  | zero => omega
  | succ n ih =>
    rw [sumM_s]
    by_cases e : i = n
    · subst e
      rw [if_pos hp, sum_zero (fun k hk hk2 => by rw [ho k (by omega) (by omega)] at hk2; exact absurd hk2 (by simp))]
      omega
    · rw [ih (by omega) (fun k hk => ho k (by omega)), ho n (by omega) (fun z => e z.symm)]
      simp
theorem sum_swap (n m : Nat) (P : Nat → Bool) (Q : Nat → Nat → Bool) (f : Nat → Nat → Nat) : sumM n P (fun i => sumM m (Q i) (f i)) = sumM m (fun _ => true) (fun r => sumM n (fun i => P i && Q i r) (fun i => f i r)) := by
  induction n with
  | zero => exact (sum_zero (fun _ _ _ => rfl)).symm
  | succ n ih =>
    have e : (fun r => sumM (n + 1) (fun i => P i && Q i r) (fun i => f i r)) = fun r => sumM n (fun i => P i && Q i r) (fun i => f i r) + (if P n && Q n r then f n r else 0) := by
      funext r; exact sumM_s n _ _
    rw [sumM_s, ih, e, sum_add]
    congr 1
    by_cases c : P n = true
    · rw [if_pos c, sum_if]; simp [c]
    · rw [if_neg c]
      exact (sum_zero (fun k _ _ => by simp [c])).symm
theorem sum_mul (n : Nat) (P : Nat → Bool) (f : Nat → Nat) (c : Nat) : sumM n P f * c = sumM n P (fun k => f k * c) := by
  induction n with
  | zero => simp [sumM]
  | succ n ih =>
    rw [sumM_s, sumM_s, Nat.add_mul, ih]
    congr 1
    split <;> simp
section HK
variable {n : Nat} {h : Nat → Nat → Nat}
theorem ahead_iff (h : Nat → Nat → Nat) (t e : Nat) : aheadB h t e = true ↔ h 5 e ≠ 0 ∧ t.testBit (h 5 e - 1) = true ∧ h 0 (h 5 e - 1) ≠ 4 := by
  unfold aheadB
  cases h5 : h 5 e with
  | zero => simp
  | succ j => simp
theorem may_iff (n : Nat) (h : Nat → Nat → Nat) (t i : Nat) : mayS n h t i = true ↔ t.testBit i = true ∧ (h 0 i = 4 ∨ ∀ e, e < n → t.testBit e = true → h 5 e ≠ i + 1) := by
  unfold mayS nAns ansB
  rw [Bool.and_eq_true, Bool.or_eq_true, beq_iff_eq, beq_iff_eq, cn_eq0]
  refine and_congr Iff.rfl (or_congr Iff.rfl ⟨fun a e he hb => ?_, fun a e he => ?_⟩)
  · have := a e he
    rw [hb] at this
    simpa using this
  · cases hb : t.testBit e with
    | false => simp
    | true => have := a e he hb; simp [this]
theorem tbc {t i e : Nat} (he : e < 32) : (clr t i).testBit e = true ↔ t.testBit e = true ∧ e ≠ i := by
  rw [tb_clr he]; simp
def rtB (h : Nat → Nat → Nat) (t r : Nat) : Bool := t.testBit r && !(aheadB h t r)
theorem rt_iff (h : Nat → Nat → Nat) (t r : Nat) : rtB h t r = true ↔ t.testBit r = true ∧ ¬ aheadB h t r = true := by
  unfold rtB; simp
/-- first i, then r last: one and the same pairs -/
theorem pair (hW : HW n h) {t i r : Nat} (hi : i < n) (hr : r < n) : (mayS n h t i && rtB h (clr t i) r) = (rtB h t r && mayS n h (clr t r) i) := by
  have hn := hW.1
  have h5r := hW.an hr
  rw [Bool.eq_iff_iff, Bool.and_eq_true, Bool.and_eq_true, may_iff, rt_iff, rt_iff, may_iff, ahead_iff, ahead_iff]
  simp (disch := omega) only [tbc]
  constructor
  · rintro ⟨⟨a, b⟩, ⟨c, d⟩, e⟩
    refine ⟨⟨c, fun f => e ?_⟩, ⟨a, fun z => d z.symm⟩, ?_⟩
    · obtain ⟨f1, f2, f3⟩ := f
      refine ⟨f1, ⟨f2, fun z => ?_⟩, f3⟩
      rcases b with b | b
      · exact f3 (by rw [z]; exact b)
      · exact b r hr c (by omega)
    · rcases b with b | b
      · exact Or.inl b
      · exact Or.inr fun e he hb => b e he ((tbc (by omega)).mp hb).1
  · rintro ⟨⟨c, e⟩, ⟨a, d⟩, b⟩
    refine ⟨⟨a, ?_⟩, ⟨c, fun z => d z.symm⟩, fun f => e ?_⟩
    · rcases b with b | b
      · exact Or.inl b
      · by_cases h4 : h 0 i = 4
        · exact Or.inl h4
        · refine Or.inr fun x hx hb hx5 => ?_
          by_cases xr : x = r
          · subst xr
            exact e ⟨by omega, by rw [hx5]; exact a, by rw [hx5]; exact h4⟩
          · exact b x hx ((tbc (by omega)).mpr ⟨hb, xr⟩) hx5
    · obtain ⟨f1, f2, f3⟩ := f
      exact ⟨f1, f2.1, f3⟩
theorem clr_comm (t i r : Nat) (ht : t < 4096) : clr (clr t i) r = clr (clr t r) i := by
  refine set_ext (n := 12) (clr_lt (clr_lt (n := 12) ht)) (clr_lt (clr_lt (n := 12) ht)) fun e he => ?_
  rw [tb_clr (by omega), tb_clr (by omega), tb_clr (by omega), tb_clr (by omega)]
  cases t.testBit e <;> simp
  exact Bool.and_comm _ _
theorem wk_sum {lb : Nat → Bool} (g : Nat → Nat) (t : Nat) : ∀ k, wk n h lb g t k = (if t = 0 then 1 else 0) + sumM k (al n h lb t) (fun i => g (clr t i)) := by
  intro k
  induction k with
  | zero => simp [wk, sumM]
  | succ k ih => rw [sumM_s]; simp only [wk]; rw [ih]; split <;> omega
theorem WC_sum {lb : Nat → Bool} (hn : n ≤ 12) {t : Nat} (t0 : t ≠ 0) : WC n h lb t = sumM n (al n h lb t) (fun i => WC n h lb (clr t i)) := by
  rw [WC_eq hn, wk_sum, if_neg t0, Nat.zero_add]
theorem WC_0 {lb : Nat → Bool} (hn : n ≤ 12) : WC n h lb 0 = 1 := by
  rw [WC_eq hn, wk_sum, if_pos rfl, sum_zero (fun k _ hk => by have := al_tb hk; simp at this)]
theorem F_sum (hn : n ≤ 12) {t : Nat} (t0 : t ≠ 0) : WC n h lb0 t = sumM n (mayS n h t) (fun i => WC n h lb0 (clr t i)) := by
  rw [WC_sum hn t0]
  exact sum_cg (fun k _ => al0 t k) (fun _ _ _ => rfl)
theorem one_of {t i : Nat} (ht : t < 2 ^ n) (hn : n ≤ 12) (hb : t.testBit i = true) (hc : clr t i = 0) : ∀ k, t.testBit k = true → k = i := by
  intro k hk
  by_cases e : k = i
  · exact e
  · have hkn := tb_lt ht hk
    have : (clr t i).testBit k = true := (tbc (by omega)).mpr ⟨hk, e⟩
    rw [hc] at this
    simp at this
/-- counted by the last -/
theorem F_last (hW : HW n h) : ∀ N t, t < N → t < 2 ^ n → t ≠ 0 → WC n h lb0 t = sumM n (rtB h t) (fun r => WC n h lb0 (clr t r)) := by
  have hn := hW.1
  have h12 : 2 ^ n ≤ 4096 := Nat.pow_le_pow_right (n := 2) (by decide) hn
  intro N
  induction N with
  | zero => intro t h1; omega
  | succ N ih =>
    intro t h1 h2 t0
    rw [F_sum hn t0]
    by_cases single : ∃ i, t.testBit i = true ∧ clr t i = 0
    · obtain ⟨i, hb, hc⟩ := single
      have hin := tb_lt h2 hb
      have ho := one_of h2 hn hb hc
      obtain ⟨j, a, b, c⟩ := top_ex n h2 t0
      have hji := ho j b
      subst hji
      have hm := top_may hW b c
      have hr : rtB h t j = true := by
        rw [rt_iff, ahead_iff]
        refine ⟨b, fun f => ?_⟩
        have h5 := hW.an a
        have := ho _ f.2.1
        omega
      rw [sum_one hin hm (fun k hk hkj => by
        cases hh : mayS n h t k with
        | false => rfl
        | true => exact absurd (ho k ((may_iff n h t k).mp hh).1) hkj), sum_one hin hr (fun k hk hkj => by
        cases hh : rtB h t k with
        | false => rfl
        | true => exact absurd (ho k ((rt_iff h t k).mp hh).1) hkj)]
    · have nz : ∀ i, t.testBit i = true → clr t i ≠ 0 := fun i hb hc => single ⟨i, hb, hc⟩
      have l : sumM n (mayS n h t) (fun i => WC n h lb0 (clr t i)) = sumM n (mayS n h t) (fun i => sumM n (rtB h (clr t i)) (fun r => WC n h lb0 (clr (clr t i) r))) := by
        refine sum_cg (fun _ _ => rfl) fun i hi hm => ?_
        have hb := ((may_iff n h t i).mp hm).1
        have := clr_self (t := t) (k := i) (by omega) hb
        exact ih (clr t i) (by omega) (clr_lt h2) (nz i hb)
      have r : sumM n (rtB h t) (fun r => WC n h lb0 (clr t r)) = sumM n (rtB h t) (fun r => sumM n (mayS n h (clr t r)) (fun i => WC n h lb0 (clr (clr t r) i))) := by
        refine sum_cg (fun _ _ => rfl) fun i hi hm => ?_
        have hb := ((rt_iff h t i).mp hm).1
        exact F_sum hn (nz i hb)
      rw [l, r, sum_swap, sum_if n (rtB h t)]
      refine sum_cg (fun _ _ => rfl) fun r hr _ => ?_
      by_cases c : rtB h t r = true
      · rw [if_pos c]
        refine sum_cg (fun i hi => ?_) (fun i hi _ => by rw [clr_comm t i r (by omega)])
        rw [pair hW hi hr, c, Bool.true_and]
      · rw [if_neg c]
        refine sum_zero fun i hi hp => ?_
        rw [pair hW hi hr] at hp
        simp [c] at hp
end HK
