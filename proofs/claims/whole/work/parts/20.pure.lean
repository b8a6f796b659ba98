/-! numbers and sets: Int32 beside Nat; sets of places as bits -/
theorem q_or (a b : Nat) : nI a ||| nI b = nI (a ||| b) := by
  apply Int32.toBitVec_inj.mp
  show BitVec.ofNat 32 a ||| BitVec.ofNat 32 b = BitVec.ofNat 32 (a ||| b)
  apply BitVec.eq_of_toNat_eq
  simp [BitVec.toNat_or, Nat.or_mod_two_pow]
theorem q_and (a b : Nat) : nI a &&& nI b = nI (a &&& b) := by
  apply Int32.toBitVec_inj.mp
  show BitVec.ofNat 32 a &&& BitVec.ofNat 32 b = BitVec.ofNat 32 (a &&& b)
  apply BitVec.eq_of_toNat_eq
  simp [BitVec.toNat_and, Nat.and_mod_two_pow]
theorem q_xor (a b : Nat) : nI a ^^^ nI b = nI (a ^^^ b) := by
  apply Int32.toBitVec_inj.mp
  show BitVec.ofNat 32 a ^^^ BitVec.ofNat 32 b = BitVec.ofNat 32 (a ^^^ b)
  apply BitVec.eq_of_toNat_eq
  simp [BitVec.toNat_xor, Nat.xor_mod_two_pow]
theorem q_m1 : (-1 : Int32) = nI 4294967295 := by decide
/-- a without b -/
def nd (a b : Nat) : Nat := a &&& (b ^^^ 4294967295)
theorem q_nd (a b : Nat) : nI a &&& (nI b ^^^ (-1 : Int32)) = nI (nd a b) := by rw [q_m1, q_xor, q_and]; rfl
theorem q_inj {a b : Nat} (ha : a < 2 ^ 31) (hb : b < 2 ^ 31) (h : nI a = nI b) : a = b := (nI_eq ha hb).mp h
theorem q_shl : ∀ i, i < 31 → (1 : Int32) <<< (nI i &&& 31) = nI (2 ^ i) := by decide +kernel
theorem q_lit (n : Nat) : (OfNat.ofNat n : Int32) = nI n := rfl
theorem q_shr {s i : Nat} (hs : s < 2 ^ 31) (hi : i < 31) : (nI s >>> (nI i &&& 31)) = nI (s / 2 ^ i) := by
  have hk : ∀ i, i < 31 → ((nI i &&& 31 : Int32).toBitVec.smod 32).toNat = i := by decide +kernel
  exact pk_shrN hs _ i (hk i hi)
theorem q_mod2 (a : Nat) : nI a &&& (1 : Int32) = nI (a % 2) := by
  show nI a &&& nI 1 = _
  rw [q_and, Nat.and_one_is_mod]
theorem q_bit {s i : Nat} (hs : s < 2 ^ 31) (hi : i < 31) : (nI s >>> (nI i &&& 31)) &&& (1 : Int32) = nI (if s.testBit i then 1 else 0) := by
  rw [q_shr hs hi, q_mod2]
  congr 1
  rw [Nat.testBit_eq_decide_div_mod_eq]
  have : s / 2 ^ i % 2 = 0 ∨ s / 2 ^ i % 2 = 1 := by omega
  rcases this with h | h <;> simp [h]
/-- how many e < n fulfil P -/
def cn : Nat → (Nat → Bool) → Nat
  | 0, _ => 0
  | n + 1, P => cn n P + (if P n then 1 else 0)
/-- the set of those e < n that fulfil P -/
def bm : Nat → (Nat → Bool) → Nat
  | 0, _ => 0
  | n + 1, P => if P n then bm n P ||| 2 ^ n else bm n P
theorem bm_s1 {n : Nat} {P : Nat → Bool} (h : P n = true) : bm (n + 1) P = bm n P ||| 2 ^ n := if_pos h
theorem bm_s0 {n : Nat} {P : Nat → Bool} (h : P n = false) : bm (n + 1) P = bm n P := by simp [bm, h]
theorem cn_s1 {n : Nat} {P : Nat → Bool} (h : P n = true) : cn (n + 1) P = cn n P + 1 := by simp [cn, h]
theorem cn_s0 {n : Nat} {P : Nat → Bool} (h : P n = false) : cn (n + 1) P = cn n P := by simp [cn, h]
theorem tb_bm (n : Nat) (P : Nat → Bool) (e : Nat) : (bm n P).testBit e = (decide (e < n) && P e) := by
  induction n with
  | zero => simp [bm]
  | succ n ih =>
    by_cases hp : P n = true
    · rw [bm_s1 hp, Nat.testBit_or, ih, Nat.testBit_two_pow]
      by_cases he : n = e
      · subst he; simp [hp]
      · have : decide (e < n + 1) = decide (e < n) := by
          apply decide_eq_decide.mpr; omega
        simp [he, this]
    · have hp' : P n = false := by simpa using hp
      rw [bm_s0 hp', ih]
      by_cases he : n = e
      · subst he; simp [hp']
      · have : decide (e < n + 1) = decide (e < n) := by
          apply decide_eq_decide.mpr; omega
        simp [this]
theorem bm_lt (n : Nat) (P : Nat → Bool) : bm n P < 2 ^ n := by
  apply Nat.lt_pow_two_of_testBit
  intro i hi
  rw [tb_bm]
  simp; omega
theorem bm_le (n : Nat) (P : Nat → Bool) {N : Nat} (h : n ≤ N) : bm n P < 2 ^ N := Nat.lt_of_lt_of_le (bm_lt n P) (Nat.pow_le_pow_right (by decide) h)
theorem cn_le (n : Nat) (P : Nat → Bool) : cn n P ≤ n := by
  induction n with
  | zero => exact Nat.le_refl 0
  | succ n ih => simp only [cn]; split <;> omega
theorem cn_congr {n : Nat} {P Q : Nat → Bool} (h : ∀ e, e < n → P e = Q e) : cn n P = cn n Q := by
  induction n with
  | zero => rfl
  | succ n ih => simp only [cn]; rw [ih (fun e he => h e (by omega)), h n (by omega)]
theorem bm_congr {n : Nat} {P Q : Nat → Bool} (h : ∀ e, e < n → P e = Q e) : bm n P = bm n Q := by
  induction n with
  | zero => rfl
  | succ n ih => simp only [bm]; rw [ih (fun e he => h e (by omega)), h n (by omega)]
theorem lt_tb {s n i : Nat} (hs : s < 2 ^ n) (hi : n ≤ i) : s.testBit i = false := Nat.testBit_lt_two_pow (Nat.lt_of_lt_of_le hs (Nat.pow_le_pow_right (by decide) hi))
theorem bm_tb {n s : Nat} (hs : s < 2 ^ n) : bm n (fun e => s.testBit e) = s := by
  apply Nat.eq_of_testBit_eq
  intro i
  rw [tb_bm]
  by_cases h : i < n
  · simp [h]
  · rw [lt_tb hs (by omega)]; simp
theorem set_ext {n s t : Nat} (hs : s < 2 ^ n) (ht : t < 2 ^ n) (h : ∀ e, e < n → s.testBit e = t.testBit e) : s = t := by
  rw [← bm_tb hs, ← bm_tb ht]
  exact bm_congr h
/-- how many places a set has -/
def pc (s : Nat) : Nat := cn 12 (fun e => s.testBit e)
theorem cn_ext {n N : Nat} {P : Nat → Bool} (h : n ≤ N) (hP : ∀ e, n ≤ e → P e = false) : cn N P = cn n P := by
  induction N with
  | zero => have : n = 0 := by omega
            subst this; rfl
  | succ N ih =>
    by_cases hn : n = N + 1
    · subst hn; rfl
    · rw [cn_s0 (hP N (by omega)), ih (by omega)]
theorem pc_bm {n : Nat} (hn : n ≤ 12) (P : Nat → Bool) : pc (bm n P) = cn n P := by
  unfold pc
  rw [cn_ext hn (P := fun e => (bm n P).testBit e) (fun e he => by show (bm n P).testBit e = false; rw [tb_bm]; simp; omega)]
  exact cn_congr fun e he => by rw [tb_bm]; simp [he]
theorem pc_le (s : Nat) : pc s ≤ 12 := cn_le 12 _
theorem tb_nd {a b i : Nat} (hi : i < 32) : (nd a b).testBit i = (a.testBit i && !b.testBit i) := by
  unfold nd
  rw [Nat.testBit_and, Nat.testBit_xor]
  have : (4294967295 : Nat).testBit i = true := by
    have := Nat.testBit_two_pow_sub_one 32 i
    simpa [hi] using this
  rw [this]
  cases a.testBit i <;> cases b.testBit i <;> rfl
theorem nd_lt {a b n : Nat} (ha : a < 2 ^ n) : nd a b < 2 ^ n := Nat.lt_of_le_of_lt Nat.and_le_left ha
/-- a set without one place -/
def clr (s i : Nat) : Nat := nd s (2 ^ i)
theorem tb_clr {s i e : Nat} (he : e < 32) : (clr s i).testBit e = (s.testBit e && decide (e ≠ i)) := by
  unfold clr
  rw [tb_nd he, Nat.testBit_two_pow]
  by_cases h : i = e
  · subst h; simp
  · have : ¬ e = i := fun z => h z.symm
    simp [h, this]
theorem clr_lt {s i n : Nat} (hs : s < 2 ^ n) : clr s i < 2 ^ n := nd_lt hs
/-! Integer.bitCount -/
def b1 (x : Int32) : Int32 := x - ((x.toUInt32 >>> ((1 : Int32).toUInt32 &&& Int32.toUInt32 31)).toInt32 &&& (1431655765 : Int32))
def b2 (x : Int32) : Int32 := (x &&& (858993459 : Int32)) + ((x.toUInt32 >>> ((2 : Int32).toUInt32 &&& Int32.toUInt32 31)).toInt32 &&& (858993459 : Int32))
def b3 (x : Int32) : Int32 := (x + (x.toUInt32 >>> ((4 : Int32).toUInt32 &&& Int32.toUInt32 31)).toInt32) &&& (252645135 : Int32)
def b4 (x : Int32) : Int32 := x + (x.toUInt32 >>> ((8 : Int32).toUInt32 &&& Int32.toUInt32 31)).toInt32
def b5 (x : Int32) : Int32 := (x + (x.toUInt32 >>> ((16 : Int32).toUInt32 &&& Int32.toUInt32 31)).toInt32) &&& (63 : Int32)
theorem q_bcE (x : Int32) (post : Int32 → Prop) : wp_J6_bitCount_0f7a4 x post = post (b5 (b4 (b3 (b2 (b1 x))))) := rfl
theorem q_bcB : ∀ x, x < 64 → ∀ y, y < 64 → b5 (b4 (b3 (b2 (b1 (nI (64 * x + y)))))) = nI (pc (64 * x + y)) := by decide +kernel
theorem q_bcA (s : Nat) (hs : s < 4096) : b5 (b4 (b3 (b2 (b1 (nI s))))) = nI (pc s) := by
  have h := q_bcB (s / 64) (by omega) (s % 64) (by omega)
  rwa [show 64 * (s / 64) + s % 64 = s by omega] at h
theorem q_bc {s : Nat} (hs : s < 4096) {post : Int32 → Prop} (h : post (nI (pc s))) : wp_J6_bitCount_0f7a4 (nI s) post := by
  rw [q_bcE, q_bcA s hs]; exact h
/-! the sayings: h f j is field f (0 kind, 1 who, 2 to whom, 3 topic, 4 weight, 5 the one it answers and 1, or 0) of saying j -/
def ansI : Nat → Int32
  | 0 => -9
  | k + 1 => nI k
def HR (kinds whos toWhoms topics weights answered : Nat → Int32) (n : Nat) (h : Nat → Nat → Nat) : Prop := ∀ j, j < n → kinds j = nI (h 0 j) ∧ whos j = nI (h 1 j) ∧ toWhoms j = nI (h 2 j) ∧ topics j = nI (h 3 j) ∧ weights j = nI (h 4 j) ∧ answered j = ansI (h 5 j)
def HW (n : Nat) (h : Nat → Nat → Nat) : Prop := n ≤ 12 ∧ ∀ j, j < n → h 0 j < 6 ∧ h 1 j < 6 ∧ h 2 j < 6 ∧ h 1 j ≠ h 2 j ∧ h 3 j < 6 ∧ 1 ≤ h 4 j ∧ h 4 j ≤ 9 ∧ h 5 j ≤ j
def btw (h : Nat → Nat → Nat) (p q e : Nat) : Bool := (h 1 e == p && h 2 e == q) || (h 1 e == q && h 2 e == p)
def oth (h : Nat → Nat → Nat) (i e : Nat) : Bool := e != i && btw h (h 1 i) (h 2 i) e
def heatS (n : Nat) (h : Nat → Nat → Nat) (s i : Nat) : Nat := cn n (fun e => oth h i e && s.testBit e)
def prc (h : Nat → Nat → Nat) (i t : Nat) : Nat := match h 0 i with
  | 1 => t + 1
  | 5 => t + 1 + h 3 i
  | 3 => t + 2 * h 4 i
  | 4 => (t + 2 * h 4 i) / 2
  | _ => t + h 4 i
def priceS (n : Nat) (h : Nat → Nat → Nat) (s i : Nat) : Nat := prc h i (heatS n h s i)
def ansB (h : Nat → Nat → Nat) (i e : Nat) : Bool := h 5 e == i + 1
def nAns (n : Nat) (h : Nat → Nat → Nat) (s i : Nat) : Nat := cn n (fun e => s.testBit e && ansB h i e)
def mayS (n : Nat) (h : Nat → Nat → Nat) (s i : Nat) : Bool := s.testBit i && (h 0 i == 4 || nAns n h s i == 0)
def frees (n : Nat) (h : Nat → Nat → Nat) (s : Nat) : Nat := bm n (mayS n h s)
/-- what one leans on -/
def leanF (h : Nat → Nat → Nat) : Nat → Nat → Nat
  | 0, _ => 0
  | f + 1, i => match h 5 i with
    | 0 => 0
    | j + 1 => leanF h f j ||| 2 ^ j
def rootF (h : Nat → Nat → Nat) : Nat → Nat → Nat
  | 0, i => i
  | f + 1, i => match h 5 i with
    | 0 => i
    | j + 1 => rootF h f j
/-! a loop whose states are told ahead -/
theorem lpG {σ : Type} (wb : (σ → Prop) → σ → Prop) (wl : Nat → σ → Prop) (h0 : ∀ x, wl 0 x = False) (h1 : ∀ z x, wl (z + 1) x = wb (wl z) x) (N : Nat) (a : Nat → σ) (out : Prop) (hs : ∀ k K, k < N → wb K (a k) = K (a (k + 1))) (he : ∀ K, wb K (a N) = out) : (∃ z, wl z (a 0)) = out := by
  have key : ∀ d k, k + d = N → ∀ z, wl z (a k) = (d < z ∧ out) := by
    intro d
    induction d with
    | zero =>
      intro k hk z
      have : k = N := by omega
      subst this
      cases z with
      | zero => rw [h0]; simp
      | succ z => rw [h1, he]; simp
    | succ d ih =>
      intro k hk z
      cases z with
      | zero => rw [h0]; simp
      | succ z => rw [h1, hs k _ (by omega), ih (k + 1) (by omega) z]; simp
  apply propext
  constructor
  · rintro ⟨z, hz⟩
    rw [key N 0 (by omega) z] at hz
    exact hz.2
  · intro h
    exact ⟨N + 1, by rw [key N 0 (by omega) (N + 1)]; exact ⟨by omega, h⟩⟩
theorem q_lt0 {a : Nat} (h : a < 2 ^ 31) : (nI a < 0) = False := eq_false (nI_pos h)
theorem q_in {a N : Nat} (h : a < N) (hN : N < 2 ^ 31) : vp_in (nI a) N = True := eq_true (vp_in_nI h hN)
theorem q_eq {a b : Nat} (ha : a < 2 ^ 31) (hb : b < 2 ^ 31) : (nI a = nI b) = (a = b) := propext (nI_eq ha hb)
theorem q_le {a b : Nat} (ha : a < 2 ^ 31) (hb : b < 2 ^ 31) : (nI a ≤ nI b) = (a ≤ b) := propext (nI_leI ha hb)
theorem q_ltI {a b : Nat} (ha : a < 2 ^ 31) (hb : b < 2 ^ 31) : (nI a < nI b) = (a < b) := propext (nI_ltI ha hb)
theorem q_cl {a : Nat} (h : a < 2 ^ 31) : (nI a).toNatClampNeg = a := nI_clamp h
theorem q_0 : (0 : Int32) = nI 0 := rfl
theorem q_1 : (1 : Int32) = nI 1 := rfl
theorem q_b0 (b : Bool) : ((if b = true then (1 : Int32) else 0) = 0) = (b = false) := by cases b <;> decide
theorem q_if0 (P : Prop) [Decidable P] : ((if P then (1 : Int32) else 0) = 0) = ¬ P := by by_cases h : P <;> simp [h]
theorem q_if0' (P : Prop) [Decidable P] : ((if P then (0 : Int32) else 1) = 0) = P := by by_cases h : P <;> simp [h]
theorem e_bit {i : Nat} (hi : i < 31) (post : Int32 → Prop) : wp_X7_bit (nI i) post = post (nI (2 ^ i)) := by
  unfold wp_X7_bit
  rw [q_shl i hi]
theorem e_has {s i : Nat} (hs : s < 2 ^ 31) (hi : i < 31) (post : Int32 → Prop) : wp_X7_hasBit (nI s) (nI i) post = post (if s.testBit i = true then 1 else 0) := by
  unfold wp_X7_hasBit
  rw [q_bit hs hi]
  have z1 : ¬ nI 1 = 0 := by decide
  have z0 : nI 0 = 0 := rfl
  cases s.testBit i <;> simp [z0, z1]
theorem e_bc {s : Nat} (hs : s < 4096) (post : Int32 → Prop) : wp_J6_bitCount_0f7a4 (nI s) post = post (nI (pc s)) := by rw [q_bcE, q_bcA s hs]
theorem e_hasNum {n i : Nat} (hn : n < 2 ^ 31) (hi : i < 2 ^ 31) (post : Int32 → Prop) : wp_X1_hasNumber (nI n) (nI i) post = post (if i < n then 1 else 0) := by
  unfold wp_X1_hasNumber
  rw [q_lt0 hi, q_le hn hi]
  by_cases h : i < n
  · have : ¬ n ≤ i := by omega
    simp [h, this]
  · have : n ≤ i := by omega
    simp [h, this]
theorem e_hasAns {n a : Nat} (hn : n < 2 ^ 31) (ha : a ≤ n) (post : Int32 → Prop) : wp_X1_hasNumber (nI n) (ansI a) post = post (if a = 0 then 0 else 1) := by
  cases a with
  | zero =>
    unfold wp_X1_hasNumber ansI
    have : (-9 : Int32) < 0 := by decide
    simp [this]
  | succ k =>
    show wp_X1_hasNumber (nI n) (nI k) post = _
    rw [e_hasNum hn (by omega)]
    have : k < n := by omega
    simp [this]
