/-! orders and the last: the class answers as the reference -/
theorem low {a b c d : Nat} (hb : 0 < b) (hd : 0 < d) (e : a * d = c * b) : a / Nat.gcd a b = c / Nat.gcd c d ∧ b / Nat.gcd a b = d / Nat.gcd c d := by
  have g1 : 0 < Nat.gcd a b := Nat.gcd_pos_of_pos_right a hb
  have g2 : 0 < Nat.gcd c d := Nat.gcd_pos_of_pos_right c hd
  have c1 := Nat.coprime_div_gcd_div_gcd g1
  have c2 := Nat.coprime_div_gcd_div_gcd g2
  have ea := Nat.div_mul_cancel (Nat.gcd_dvd_left a b)
  have eb := Nat.div_mul_cancel (Nat.gcd_dvd_right a b)
  have ec := Nat.div_mul_cancel (Nat.gcd_dvd_left c d)
  have ed := Nat.div_mul_cancel (Nat.gcd_dvd_right c d)
  generalize Nat.gcd a b = g at *
  generalize Nat.gcd c d = g' at *
  generalize a / g = a' at *
  generalize b / g = b' at *
  generalize c / g' = c' at *
  generalize d / g' = d' at *
  subst ea; subst eb; subst ec; subst ed
  have e' : (g * g') * (a' * d') = (g * g') * (c' * b') := by
    calc (g * g') * (a' * d') = a' * g * (d' * g') := by ac_rfl
      _ = c' * g' * (b' * g) := e
      _ = (g * g') * (c' * b') := by ac_rfl
  have e2 : a' * d' = c' * b' := Nat.eq_of_mul_eq_mul_left (Nat.mul_pos g1 g2) e'
  have h1 : b' ∣ d' := Nat.Coprime.dvd_of_dvd_mul_left c1.symm (e2 ▸ Nat.dvd_mul_left b' c')
  have h2 : d' ∣ b' := Nat.Coprime.dvd_of_dvd_mul_left c2.symm (e2 ▸ Nat.dvd_mul_left d' a')
  have h3 : b' = d' := Nat.dvd_antisymm h1 h2
  subst h3
  have b0 : 0 < b' := Nat.pos_of_mul_pos_right hb |> fun _ => by
    rcases Nat.eq_zero_or_pos b' with z | z
    · subst z; simp at hb
    · exact z
  exact ⟨Nat.eq_of_mul_eq_mul_right b0 e2, rfl⟩
def prodM : Nat → (Nat → Bool) → (Nat → Nat) → Nat
  | 0, _, _ => 1
  | k + 1, P, f => if P k then prodM k P f * f k else prodM k P f
theorem prod_cg {n : Nat} {P Q : Nat → Bool} {f g : Nat → Nat} (h : ∀ k, k < n → P k = Q k) (hf : ∀ k, k < n → P k = true → f k = g k) : prodM n P f = prodM n Q g := by
  induction n with
  | zero => rfl
  | succ n ih =>
    simp only [prodM]
    rw [ih (fun k hk => h k (by omega)) (fun k hk => hf k (by omega)), ← h n (by omega)]
    by_cases c : P n = true
    · rw [if_pos c, if_pos c, hf n (by omega) c]
    · rw [if_neg c, if_neg c]
theorem prod_pos {n : Nat} {P : Nat → Bool} {f : Nat → Nat} (hf : ∀ k, k < n → P k = true → 1 ≤ f k) : 1 ≤ prodM n P f := by
  induction n with
  | zero => exact Nat.le_refl 1
  | succ n ih =>
    have := ih (fun k hk => hf k (by omega))
    simp only [prodM]
    by_cases c : P n = true
    · rw [if_pos c]; exact Nat.mul_pos this (hf n (by omega) c)
    · rw [if_neg c]; exact this
theorem prod_le {n B : Nat} {P : Nat → Bool} {f : Nat → Nat} (hB : 1 ≤ B) (hf : ∀ k, k < n → f k ≤ B) : prodM n P f ≤ B ^ n := by
  induction n with
  | zero => exact Nat.le_refl 1
  | succ n ih =>
    have h1 := ih (fun k hk => hf k (by omega))
    simp only [prodM]
    rw [Nat.pow_succ]
    split
    · exact Nat.mul_le_mul h1 (hf n (by omega))
    · exact Nat.le_trans h1 (Nat.le_mul_of_pos_right _ hB)
theorem prod_out {n r : Nat} {P Q : Nat → Bool} {f : Nat → Nat} (hr : r < n) (hp : P r = true) (hq : ∀ k, k < n → Q k = (P k && decide (k ≠ r))) : prodM n P f = prodM n Q f * f r := by
  induction n with
  | zero => omega
  | succ n ih =>
    simp only [prodM]
    by_cases e : r = n
    · subst e
      have q : Q r = false := by rw [hq r (by omega)]; simp
      rw [if_pos hp, q]
      simp
      rw [prod_cg (Q := Q) (g := f) (fun k hk => by rw [hq k (by omega)]; have : k ≠ r := by omega
                                                    simp [this]) (fun _ _ _ => rfl)]
    · have q : Q n = P n := by
        rw [hq n (by omega)]
        have : n ≠ r := fun z => e z.symm
        simp [this]
      rw [ih (by omega) (fun k hk => hq k (by omega)), q]
      split
      · ac_rfl
      · rfl
def fc : Nat → Nat
  | 0 => 1
  | k + 1 => (k + 1) * fc k
section OR
variable {n : Nat} {h : Nat → Nat → Nat}
theorem withF_n (h : Nat → Nat → Nat) (s : Nat) {k b : Nat} (hk : k ≤ n) (hb : b < 2 ^ n) : withF h s k b < 2 ^ n := by
  induction k with
  | zero => exact hb
  | succ k ih =>
    have := ih (by omega)
    simp only [withF]
    split
    · exact or_lt this (pw_lt (by omega))
    · exact this
theorem tr_n (t : Nat) {i : Nat} (hi : i < n) : tr n h t i < 2 ^ n := withF_n h t (Nat.le_refl n) (pw_lt hi)
theorem tr_sum (hW : HW n h) {t : Nat} (ht : t < 2 ^ n) : sumM n (rtB h t) (fun r => pc (tr n h t r)) = pc t := by
  have hn := hW.1
  have e1 : sumM n (rtB h t) (fun r => pc (tr n h t r)) = sumM n (rtB h t) (fun r => cn n (fun k => t.testBit k && ro h t 12 k == r)) := by
    refine sum_cg (fun _ _ => rfl) fun r hr hrt => ?_
    rw [pc_cn hn (tr_n t hr)]
    refine cn_congr fun k hk => ?_
    rw [Bool.eq_iff_iff, tr_root hW hrt (k + 1) k (by omega) hk]
    simp
  rw [e1, sum_cn _ _ _ _ (fun k hk _ => by have := (ro_is hW t 12 k (by omega) hk).1; omega), pc_cn hn ht]
  refine cn_congr fun k hk => ?_
  obtain ⟨a, b, c⟩ := ro_is hW t 12 k (by omega) hk
  cases hb : t.testBit k with
  | false => rfl
  | true =>
    have : rtB h t (ro h t 12 k) = true := (rt_iff h t _).mpr ⟨c hb, b⟩
    rw [this]; rfl
theorem tr_same (hW : HW n h) {t r i : Nat} (hr : rtB h t r = true) (hrn : r < n) (hi : i < n) (hri : r ≠ i) : tr n h (clr t r) i = tr n h t i := by
  have hn := hW.1
  obtain ⟨r1, r2⟩ := (rt_iff h t r).mp hr
  have nr : ¬ (tr n h t i).testBit r = true := by
    rw [tr_tb hW t i hrn]
    rintro (d | d)
    · exact hri d
    · exact r2 d.2.1
  refine set_ext (n := n) (tr_n _ hi) (tr_n _ hi) fun e he => ?_
  rw [Bool.eq_iff_iff]
  have key : ∀ N e, e < N → e < n → ((tr n h (clr t r) i).testBit e = true ↔ (tr n h t i).testBit e = true) := by
    intro N
    induction N with
    | zero => intro e he; omega
    | succ N ih =>
      intro e he hen
      have h5 := hW.an hen
      rw [tr_tb hW _ i hen, tr_tb hW t i hen]
      constructor
      · rintro (d | ⟨d1, d2, d3⟩)
        · exact Or.inl d
        · obtain ⟨a1, a2, a3⟩ := (ahead_iff h _ e).mp d2
          have a2' := ((tbc (by omega)).mp a2)
          exact Or.inr ⟨((tbc (by omega)).mp d1).1, (ahead_iff h t e).mpr ⟨a1, a2'.1, a3⟩, (ih _ (by omega) (by omega)).mp d3⟩
      · rintro (d | ⟨d1, d2, d3⟩)
        · exact Or.inl d
        · obtain ⟨a1, a2, a3⟩ := (ahead_iff h t e).mp d2
          have ep : h 5 e - 1 ≠ r := fun z => nr (z ▸ d3)
          have er : e ≠ r := fun z => r2 (z ▸ d2)
          exact Or.inr ⟨(tbc (by omega)).mpr ⟨d1, er⟩, (ahead_iff h _ e).mpr ⟨a1, (tbc (by omega)).mpr ⟨a2, ep⟩, a3⟩, (ih _ (by omega) (by omega)).mpr d3⟩
  exact key (e + 1) e (by omega) he
/-- the sizes of all trees, multiplied -/
def HKp (n : Nat) (h : Nat → Nat → Nat) (t : Nat) : Nat := prodM n (fun i => t.testBit i) (fun i => pc (tr n h t i))
theorem HK_out (hW : HW n h) {t r : Nat} (hr : rtB h t r = true) (hrn : r < n) : HKp n h t = HKp n h (clr t r) * pc (tr n h t r) := by
  have hn := hW.1
  obtain ⟨r1, r2⟩ := (rt_iff h t r).mp hr
  unfold HKp
  rw [prod_out (Q := fun i => (clr t r).testBit i) hrn r1 (fun k hk => tb_clr (by omega))]
  congr 1
  refine prod_cg (fun _ _ => rfl) fun k hk hb => ?_
  have := ((tbc (by omega)).mp hb).2
  rw [tr_same hW hr hrn hk (fun z => this z.symm)]
theorem tr_pos (hW : HW n h) (t : Nat) {i : Nat} (hi : i < n) : 1 ≤ pc (tr n h t i) := by
  have hn := hW.1
  exact cn_pos (P := fun e => (tr n h t i).testBit e) (e := i) (by omega) ((tr_tb hW t i hi).mpr (Or.inl rfl))
theorem HK_pos (hW : HW n h) (t : Nat) : 1 ≤ HKp n h t := prod_pos fun k hk _ => tr_pos hW t hk
/-- the orders, times the trees' sizes: all rows of the numbers -/
theorem hooks (hW : HW n h) : ∀ N t, t < N → t < 2 ^ n → WC n h lb0 t * HKp n h t = fc (pc t) := by
  have hn := hW.1
  have h12 : 2 ^ n ≤ 4096 := Nat.pow_le_pow_right (n := 2) (by decide) hn
  intro N
  induction N with
  | zero => intro t h1; omega
  | succ N ih =>
    intro t h1 h2
    by_cases t0 : t = 0
    · subst t0
      rw [WC_0 hn, pc_0]
      have : HKp n h 0 = prodM n (fun _ => false) (fun _ => 1) := prod_cg (fun k _ => by simp) (fun k _ hk => by simp at hk)
      rw [this]
      have : ∀ m, prodM m (fun _ => false) (fun _ => 1) = 1 := by
        intro m; induction m with
        | zero => rfl
        | succ m ih => simpa [prodM] using ih
      rw [this]; rfl
    · have hp : pc t ≠ 0 := fun e => t0 ((pc_eq0 (by omega)).mp e)
      rw [F_last hW (t + 1) t (by omega) h2 t0, sum_mul]
      have e : sumM n (rtB h t) (fun r => WC n h lb0 (clr t r) * HKp n h t) = sumM n (rtB h t) (fun r => pc (tr n h t r) * fc (pc t - 1)) := by
        refine sum_cg (fun _ _ => rfl) fun r hr hrt => ?_
        have hb := ((rt_iff h t r).mp hrt).1
        have hc := clr_self (t := t) (k := r) (by omega) hb
        have i1 := ih (clr t r) (by omega) (clr_lt h2)
        have p1 := pc_clr (t := t) (i := r) (by omega) hb
        rw [HK_out hW hrt hr, ← Nat.mul_assoc, i1, show pc (clr t r) = pc t - 1 by omega, Nat.mul_comm]
      rw [e, ← sum_mul, tr_sum hW h2]
      obtain ⟨q, hq⟩ : ∃ q, pc t = q + 1 := ⟨pc t - 1, by omega⟩
      rw [hq]; rfl
def lbi (i : Nat) : Nat → Bool := fun k => k == i
theorem W_last (hW : HW n h) {i : Nat} (hi : i < n) : ∀ N t, t < N → t < 2 ^ n → t.testBit i = true → WC n h (lbi i) t = if rtB h t i = true then WC n h lb0 (clr t i) else 0 := by
  have hn := hW.1
  have h12 : 2 ^ n ≤ 4096 := Nat.pow_le_pow_right (n := 2) (by decide) hn
  intro N
  induction N with
  | zero => intro t h1; omega
  | succ N ih =>
    intro t h1 h2 hb
    have t0 : t ≠ 0 := fun e => by rw [e] at hb; simp at hb
    rw [WC_sum hn t0]
    by_cases hc : clr t i = 0
    · have ho := one_of h2 hn hb hc
      obtain ⟨j, a, b, c⟩ := top_ex n h2 t0
      have hji := ho j b
      subst hji
      have hm := top_may hW b c
      have hr : rtB h t j = true := by
        rw [rt_iff, ahead_iff]
        refine ⟨b, fun f => ?_⟩
        have h5 := hW.an a
        have := ho _ f.2.1
        omega
      have ha : al n h (lbi j) t j = true := by unfold al; simp [hm, hc]
      rw [if_pos hr, sum_one hi ha (fun k hk hkj => by
        cases hh : al n h (lbi j) t k with
        | false => rfl
        | true => exact absurd (ho k (al_tb hh)) hkj), hc, WC_0 hn, WC_0 hn]
    · have e1 : sumM n (al n h (lbi i) t) (fun k => WC n h (lbi i) (clr t k)) = sumM n (fun k => mayS n h t k && rtB h (clr t k) i) (fun k => WC n h lb0 (clr (clr t i) k)) := by
        rw [sum_if, sum_if n (fun k => mayS n h t k && rtB h (clr t k) i)]
        refine sum_cg (fun _ _ => rfl) fun k hk _ => ?_
        by_cases ek : k = i
        · subst ek
          have h1 : al n h (lbi k) t k = false := by unfold al lbi; simp [hc]
          have h2 : rtB h (clr t k) k = false := by
            unfold rtB; rw [tb_clr (by omega)]; simp
          simp [h1, h2]
        · have h3 : al n h (lbi i) t k = mayS n h t k := by unfold al lbi; simp [ek]
          rw [h3]
          cases hm : mayS n h t k with
          | false => simp
          | true =>
            have hbk := ((may_iff n h t k).mp hm).1
            have hbi : (clr t k).testBit i = true := (tbc (by omega)).mpr ⟨hb, fun z => ek z.symm⟩
            have hlt := clr_self (t := t) (k := k) (by omega) hbk
            rw [ih (clr t k) (by omega) (clr_lt h2) hbi, clr_comm t k i (by omega)]
            simp
      rw [e1]
      by_cases hr : rtB h t i = true
      · rw [if_pos hr, F_sum hn hc]
        refine sum_cg (fun k hk => ?_) (fun _ _ _ => rfl)
        rw [pair hW hk hi, hr, Bool.true_and]
      · rw [if_neg hr]
        refine sum_zero fun k hk hp => ?_
        rw [pair hW hk hi] at hp
        simp [hr] at hp
theorem fc_le : ∀ k, k ≤ 12 → fc k ≤ 479001600 := by decide
theorem WC_le (hW : HW n h) {t : Nat} (ht : t < 2 ^ n) : WC n h lb0 t ≤ 479001600 := by
  have h1 := hooks hW (t + 1) t (by omega) ht
  have h2 := HK_pos hW t
  have h3 := fc_le (pc t) (pc_le t)
  have h4 : WC n h lb0 t * 1 ≤ WC n h lb0 t * HKp n h t := Nat.mul_le_mul_left _ h2
  omega
theorem fc_pos : ∀ k, 1 ≤ fc k := by
  intro k
  induction k with
  | zero => exact Nat.le_refl 1
  | succ k ih => exact Nat.mul_pos (by omega) ih
theorem WC_pos (hW : HW n h) {t : Nat} (ht : t < 2 ^ n) : 1 ≤ WC n h lb0 t := by
  have h1 := hooks hW (t + 1) t (by omega) ht
  have h3 := fc_pos (pc t)
  rcases Nat.eq_zero_or_pos (WC n h lb0 t) with z | z
  · rw [z, Nat.zero_mul] at h1; omega
  · exact z
end OR
