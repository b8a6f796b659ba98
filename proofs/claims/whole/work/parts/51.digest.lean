/-! digest: the class answers as the reference -/
def fo (f : Nat → Int64) : Nat → Int64 → Int64
  | 0, x => x
  | k + 1, x => 31 * fo f k x + f k
theorem fo_cg {f g : Nat → Int64} : ∀ (k : Nat) (x : Int64), (∀ i, i < k → f i = g i) → fo f k x = fo g k x := by
  intro k
  induction k with
  | zero => intro x _; rfl
  | succ k ih => intro x h; simp only [fo]; rw [ih x (fun i hi => h i (by omega)), h k (by omega)]
def rf (m : Nat → Nat) (w : Nat) (cl : Nat → Int32) : Nat → Int64 → Int64
  | 0, x => x
  | r + 1, x => fo (fun i => (cl (w * r + i)).toInt64) (m r - 1) (31 * rf m w cl r x + (szI (m r)).toInt64)
theorem rf_cg {m : Nat → Nat} {w : Nat} {cl cl' : Nat → Int32} : ∀ (k : Nat) (x : Int64), (∀ r, r < k → ∀ i, i + 1 < m r → cl (w * r + i) = cl' (w * r + i)) → rf m w cl k x = rf m w cl' k x := by
  intro k
  induction k with
  | zero => intro x _; rfl
  | succ k ih =>
    intro x h
    simp only [rf]
    rw [ih x (fun r hr => h r (by omega))]
    exact fo_cg _ _ fun i hi => by rw [h k (by omega) i (by omega)]
def h2 (F : Nat → Nat → Int64) : Nat → Int64 → Int64
  | 0, x => x
  | i + 1, x => fo (F i) 8 (h2 F i x)
theorem q_szl {m i : Nat} (hm : m < 1000) (hi : i < 1000) : (szI m ≤ nI i) = (m - 1 ≤ i) := by
  cases m with
  | zero =>
    have : (-1 : Int32) ≤ nI i := Int32.le_of_lt (Int32.lt_of_lt_of_le (by decide) (nI_pos' (n := i) (by omega)))
    simp [szI, this]
  | succ q =>
    show (nI q ≤ nI i) = _
    rw [q_le (by omega) (by omega)]
    simp
section DG
/-- a shelf told -/
theorem e5_digest {k w nc : Nat} {m : Nat → Nat} {sz cl sz' cl' : Nat → Int32} (hS : SH k w m sz cl sz' cl') (hk : k < 100) (hw : w < 100) (hc : w * k ≤ nc) (hnc : nc < 100000) (x : Int64) (post : Int64 → Prop) : wp_X5_digestFrom k nc (nI w) sz cl x post = post (rf m w cl k x) := by
  refine lpG (σ := Int64 × Int32) (fun K z => wb_X5_digestFrom_5 k nc (nI w) sz cl post (fun a b => K (a, b)) z.1 z.2) (fun z y => wl_X5_digestFrom_5 k nc (nI w) sz cl post z y.1 y.2) (fun _ => rfl) (fun _ _ => rfl) k (fun r => (rf m w cl r x, nI r)) _ (fun r K hr => ?_) (fun K => ?_)
  · obtain ⟨a, b, c, d⟩ := hS r hr
    have nr : ¬ k ≤ r := by omega
    have hwr : w * r + w ≤ nc := Nat.le_trans (by rw [← Nat.mul_succ]; exact Nat.mul_le_mul_left w hr) hc
    have inner : ∀ K5 : Int64 → Int32 → Prop, ∀ y, (∃ zn, wl_X5_digestFrom_33 k nc (nI w) sz cl K5 zn y (nI r) 0) = K5 (fo (fun i => (cl (w * r + i)).toInt64) (m r - 1) y) (nI (r + 1)) := by
      intro K5 y
      refine lpG (σ := Int64 × Int32 × Int32) (fun K z => wb_X5_digestFrom_33 k nc (nI w) sz cl K5 (fun a b c => K (a, b, c)) z.1 z.2.1 z.2.2) (fun z y => wl_X5_digestFrom_33 k nc (nI w) sz cl K5 z y.1 y.2.1 y.2.2) (fun _ => rfl) (fun _ _ => rfl) (m r - 1) (fun i => (fo (fun i => (cl (w * r + i)).toInt64) i y, nI r, nI i)) _ (fun i K hi => ?_) (fun K => ?_)
      · have ni : ¬ m r - 1 ≤ i := by omega
        show wb_X5_digestFrom_33 k nc (nI w) sz cl K5 (fun a b c => K (a, b, c)) (fo (fun i => (cl (w * r + i)).toInt64) i y) (nI r) (nI i) = K (fo (fun i => (cl (w * r + i)).toInt64) (i + 1) y, nI r, nI (i + 1))
        simp (disch := omega) only [wb_X5_digestFrom_33, q_in, q_cl, b, q_szl, ni, e5_cell, nI_1]
        simp [fo]
      · show wb_X5_digestFrom_33 k nc (nI w) sz cl K5 (fun a b c => K (a, b, c)) (fo (fun i => (cl (w * r + i)).toInt64) (m r - 1) y) (nI r) (nI (m r - 1)) = _
        simp (disch := omega) only [wb_X5_digestFrom_33, q_in, q_cl, b, q_szl, nI_1]
        simp
    show wb_X5_digestFrom_5 k nc (nI w) sz cl post (fun a b => K (a, b)) (rf m w cl r x) (nI r) = K (rf m w cl (r + 1) x, nI (r + 1))
    simp (disch := omega) only [wb_X5_digestFrom_5, q_le, nr, q_in, q_cl, b, inner]
    simp [rf]
  · show wb_X5_digestFrom_5 k nc (nI w) sz cl post (fun a b => K (a, b)) (rf m w cl k x) (nI k) = _
    simp (disch := omega) only [wb_X5_digestFrom_5, q_le]
    simp
theorem e8_digT {m : Nat → Nat} {ts tc tS tw : Nat → Int32} (hS : SH 4 80 m ts tc tS tw) (x : Int64) (post : Int64 → Prop) : (∃ zn, wl_X8_digest_195 tS tw post zn x 0) = post (rf m 80 tw 4 x) := by
  refine lpG (σ := Int64 × Int32) (fun K z => wb_X8_digest_195 tS tw post (fun a b => K (a, b)) z.1 z.2) (fun z y => wl_X8_digest_195 tS tw post z y.1 y.2) (fun _ => rfl) (fun _ _ => rfl) 4 (fun r => (rf m 80 tw r x, nI r)) _ (fun r K hr => ?_) (fun K => ?_)
  · obtain ⟨a, b, c, d⟩ := hS r hr
    have nr : ¬ 4 ≤ r := by omega
    have inner : ∀ K5 : Int64 → Int32 → Prop, ∀ y, (∃ zn, wl_X8_digest_217 tS tw K5 zn y (nI r) 0) = K5 (fo (fun i => (tw (80 * r + i)).toInt64) (m r - 1) y) (nI (r + 1)) := by
      intro K5 y
      refine lpG (σ := Int64 × Int32 × Int32) (fun K z => wb_X8_digest_217 tS tw K5 (fun a b c => K (a, b, c)) z.1 z.2.1 z.2.2) (fun z y => wl_X8_digest_217 tS tw K5 z y.1 y.2.1 y.2.2) (fun _ => rfl) (fun _ _ => rfl) (m r - 1) (fun i => (fo (fun i => (tw (80 * r + i)).toInt64) i y, nI r, nI i)) _ (fun i K hi => ?_) (fun K => ?_)
      · have ni : ¬ m r - 1 ≤ i := by omega
        show wb_X8_digest_217 tS tw K5 (fun a b c => K (a, b, c)) (fo (fun i => (tw (80 * r + i)).toInt64) i y) (nI r) (nI i) = K (fo (fun i => (tw (80 * r + i)).toInt64) (i + 1) y, nI r, nI (i + 1))
        simp (disch := omega) only [wb_X8_digest_217, q_in, q_cl, c, q_szl, ni, z_80, pk_mul, nI_add, nI_1]
        simp [fo]
      · show wb_X8_digest_217 tS tw K5 (fun a b c => K (a, b, c)) (fo (fun i => (tw (80 * r + i)).toInt64) (m r - 1) y) (nI r) (nI (m r - 1)) = _
        simp (disch := omega) only [wb_X8_digest_217, q_in, q_cl, c, q_szl, nI_1]
        simp
    show wb_X8_digest_195 tS tw post (fun a b => K (a, b)) (rf m 80 tw r x) (nI r) = K (rf m 80 tw (r + 1) x, nI (r + 1))
    simp (disch := omega) only [wb_X8_digest_195, z_4, q_le, nr, q_in, q_cl, c, inner]
    simp [rf]
  · show wb_X8_digest_195 tS tw post (fun a b => K (a, b)) (rf m 80 tw 4 x) (nI 4) = _
    simp (disch := omega) only [wb_X8_digest_195, z_4, q_le]
    simp
theorem e8_digR {m : Nat → Nat} {rs rc rS rw tS tw : Nat → Int32} (hS : SH 6 40 m rs rc rS rw) (x : Int64) (post : Int64 → Prop) : (∃ zn, wl_X8_digest_127 rS rw tS tw post zn x 0) = (∃ zn, wl_X8_digest_195 tS tw post zn (rf m 40 rw 6 x) 0) := by
  refine lpG (σ := Int64 × Int32) (fun K z => wb_X8_digest_127 rS rw tS tw post (fun a b => K (a, b)) z.1 z.2) (fun z y => wl_X8_digest_127 rS rw tS tw post z y.1 y.2) (fun _ => rfl) (fun _ _ => rfl) 6 (fun r => (rf m 40 rw r x, nI r)) _ (fun r K hr => ?_) (fun K => ?_)
  · obtain ⟨a, b, c, d⟩ := hS r hr
    have nr : ¬ 6 ≤ r := by omega
    have inner : ∀ K5 : Int64 → Int32 → Prop, ∀ y, (∃ zn, wl_X8_digest_150 rS rw K5 zn y (nI r) 0) = K5 (fo (fun i => (rw (40 * r + i)).toInt64) (m r - 1) y) (nI (r + 1)) := by
      intro K5 y
      refine lpG (σ := Int64 × Int32 × Int32) (fun K z => wb_X8_digest_150 rS rw K5 (fun a b c => K (a, b, c)) z.1 z.2.1 z.2.2) (fun z y => wl_X8_digest_150 rS rw K5 z y.1 y.2.1 y.2.2) (fun _ => rfl) (fun _ _ => rfl) (m r - 1) (fun i => (fo (fun i => (rw (40 * r + i)).toInt64) i y, nI r, nI i)) _ (fun i K hi => ?_) (fun K => ?_)
      · have ni : ¬ m r - 1 ≤ i := by omega
        show wb_X8_digest_150 rS rw K5 (fun a b c => K (a, b, c)) (fo (fun i => (rw (40 * r + i)).toInt64) i y) (nI r) (nI i) = K (fo (fun i => (rw (40 * r + i)).toInt64) (i + 1) y, nI r, nI (i + 1))
        simp (disch := omega) only [wb_X8_digest_150, q_in, q_cl, c, q_szl, ni, z_40, pk_mul, nI_add, nI_1]
        simp [fo]
      · show wb_X8_digest_150 rS rw K5 (fun a b c => K (a, b, c)) (fo (fun i => (rw (40 * r + i)).toInt64) (m r - 1) y) (nI r) (nI (m r - 1)) = _
        simp (disch := omega) only [wb_X8_digest_150, q_in, q_cl, c, q_szl, nI_1]
        simp
    show wb_X8_digest_127 rS rw tS tw post (fun a b => K (a, b)) (rf m 40 rw r x) (nI r) = K (rf m 40 rw (r + 1) x, nI (r + 1))
    simp (disch := omega) only [wb_X8_digest_127, z_6, q_le, nr, q_in, q_cl, c, inner]
    simp [rf]
  · show wb_X8_digest_127 rS rw tS tw post (fun a b => K (a, b)) (rf m 40 rw 6 x) (nI 6) = _
    simp (disch := omega) only [wb_X8_digest_127, z_6, q_le]
    simp
end DG
section DH
variable {kinds whos toWhoms topics weights answered now : Nat → Int32} {n s dn : Nat} {h : Nat → Nat → Nat}
theorem e_cnt (hR : HR kinds whos toWhoms topics weights answered n h) (hM : MH now n h) (hW : HW n h) (hs : s < 4096) (hs2 : now 2 = nI s) (hd : now 1 = nI dn) {m1 m2 : Nat → Nat} {rs rc rS rw ts tc tS tw : Nat → Int32} (h1 : SH 6 40 m1 rs rc rS rw) (h2 : SH 4 80 m2 ts tc tS tw) {kept : Nat → Option Nat} {kM : Nat → Int32} (hK : KP kept kM) (k : Nat) (hk9 : k < 9) :
    ∃ c : Int32, (∀ post, wp_X7_count 6 rs 4 ts kinds whos toWhoms topics weights answered (nI n) (nI s) (nI dn) kept (nI k) post = post c) ∧ (∀ post, wp_X8_counted rS tS now kM (nI k) post = post c) := by
  have hn := hW.1
  have ob : orM n (fun e => h 5 e == 0) (fun e => 2 ^ h 1 e) < 4096 := by
    have : orM n (fun e => h 5 e == 0) (fun e => 2 ^ h 1 e) < 2 ^ 6 := orM_lt (N := 6) fun e he _ => pw_lt (hW.2 e he).2.1
    omega
  have i1 : ∀ post : Int32 → Prop, wp_X1_howManyOf kinds (nI n) 1 post = post (nI (cn n (fun e => isOfB (h 0 e) 1))) := fun post => e_howManyOf hR hW (t := 1) (by decide) post
  have pr : ∀ post : Int32 → Prop, wp_X8_pricesOf now 63 post = post (nI (sumM n (fun e => s.testBit e) (priceS n h s))) := fun post => by
    rw [z_63, e_mprices hM hW hs hs2 (by decide), prices63 hW]
  rcases (show k = 0 ∨ k = 1 ∨ k = 2 ∨ k = 3 ∨ k = 4 ∨ k = 5 ∨ k = 6 ∨ k = 7 ∨ k = 8 by omega) with rfl | rfl | rfl | rfl | rfl | rfl | rfl | rfl | rfl
  · refine ⟨nI n, fun post => ?_, fun post => ?_⟩
    · rw [wp_X7_count]
      simp (disch := omega) only [wp_X1_howMany, wp_X1_saidBits, e_bc, wp_X1_howManyDeeds, e_pricesOf hR hW, e_beginners hR hW, i1, e_there h1, e_there h2, e_keptN]
      simp [show nI 0 = 0 from rfl]
    · rw [e_counted hM hW]
      have g6 : nI 0 ≠ 6 := by decide
      have g7 : nI 0 ≠ 7 := by decide
      have g8 : nI 0 ≠ 8 := by decide
      simp only [e_88n _ _ _ g6, e_130n _ _ _ g7, e_171n _ _ _ g8]
      simp (disch := omega) only [wb_X8_counted_209, hM.1, hs2, hd, e_mbits, pr]
      simp [show nI 0 = 0 from rfl]
  · refine ⟨nI (pc s), fun post => ?_, fun post => ?_⟩
    · rw [wp_X7_count]
      simp (disch := omega) only [wp_X1_howMany, wp_X1_saidBits, e_bc, wp_X1_howManyDeeds, e_pricesOf hR hW, e_beginners hR hW, i1, e_there h1, e_there h2, e_keptN]
      simp [show nI 1 = 1 from rfl]
    · rw [e_counted hM hW]
      have g6 : nI 1 ≠ 6 := by decide
      have g7 : nI 1 ≠ 7 := by decide
      have g8 : nI 1 ≠ 8 := by decide
      simp only [e_88n _ _ _ g6, e_130n _ _ _ g7, e_171n _ _ _ g8]
      simp (disch := omega) only [wb_X8_counted_209, hM.1, hs2, hd, e_mbits, pr]
      simp [show nI 1 = 1 from rfl]
  · refine ⟨nI dn, fun post => ?_, fun post => ?_⟩
    · rw [wp_X7_count]
      simp (disch := omega) only [wp_X1_howMany, wp_X1_saidBits, e_bc, wp_X1_howManyDeeds, e_pricesOf hR hW, e_beginners hR hW, i1, e_there h1, e_there h2, e_keptN]
      simp [show nI 2 = 2 from rfl]
    · rw [e_counted hM hW]
      have g6 : nI 2 ≠ 6 := by decide
      have g7 : nI 2 ≠ 7 := by decide
      have g8 : nI 2 ≠ 8 := by decide
      simp only [e_88n _ _ _ g6, e_130n _ _ _ g7, e_171n _ _ _ g8]
      simp (disch := omega) only [wb_X8_counted_209, hM.1, hs2, hd, e_mbits, pr]
      simp [show nI 2 = 2 from rfl]
  · refine ⟨nI (sumM n (fun e => s.testBit e) (priceS n h s)), fun post => ?_, fun post => ?_⟩
    · rw [wp_X7_count]
      simp (disch := omega) only [wp_X1_howMany, wp_X1_saidBits, e_bc, wp_X1_howManyDeeds, e_pricesOf hR hW, e_beginners hR hW, i1, e_there h1, e_there h2, e_keptN]
      simp [show nI 3 = 3 from rfl]
    · rw [e_counted hM hW]
      have g6 : nI 3 ≠ 6 := by decide
      have g7 : nI 3 ≠ 7 := by decide
      have g8 : nI 3 ≠ 8 := by decide
      simp only [e_88n _ _ _ g6, e_130n _ _ _ g7, e_171n _ _ _ g8]
      simp (disch := omega) only [wb_X8_counted_209, hM.1, hs2, hd, e_mbits, pr]
      simp [show nI 3 = 3 from rfl]
  · refine ⟨nI (pc (orM n (fun e => h 5 e == 0) (fun e => 2 ^ h 1 e))), fun post => ?_, fun post => ?_⟩
    · rw [wp_X7_count]
      simp (disch := omega) only [wp_X1_howMany, wp_X1_saidBits, e_bc, wp_X1_howManyDeeds, e_pricesOf hR hW, e_beginners hR hW, i1, e_there h1, e_there h2, e_keptN]
      simp [show nI 4 = 4 from rfl]
    · rw [e_counted hM hW]
      have g6 : nI 4 ≠ 6 := by decide
      have g7 : nI 4 ≠ 7 := by decide
      have g8 : nI 4 ≠ 8 := by decide
      simp only [e_88n _ _ _ g6, e_130n _ _ _ g7, e_171n _ _ _ g8]
      simp (disch := omega) only [wb_X8_counted_209, hM.1, hs2, hd, e_mbits, pr]
      simp [show nI 4 = 4 from rfl]
  · refine ⟨nI (cn n (fun e => isOfB (h 0 e) 1)), fun post => ?_, fun post => ?_⟩
    · rw [wp_X7_count]
      simp (disch := omega) only [wp_X1_howMany, wp_X1_saidBits, e_bc, wp_X1_howManyDeeds, e_pricesOf hR hW, e_beginners hR hW, i1, e_there h1, e_there h2, e_keptN]
      simp [show nI 5 = 5 from rfl]
    · rw [e_counted hM hW]
      have g6 : nI 5 ≠ 6 := by decide
      have g7 : nI 5 ≠ 7 := by decide
      have g8 : nI 5 ≠ 8 := by decide
      simp only [e_88n _ _ _ g6, e_130n _ _ _ g7, e_171n _ _ _ g8]
      simp (disch := omega) only [wb_X8_counted_209, hM.1, hs2, hd, e_mbits, pr]
      simp [show nI 5 = 5 from rfl]
  · refine ⟨nI (cn 6 (fun r => m1 r != 0)), fun post => ?_, fun post => ?_⟩
    · rw [wp_X7_count]
      simp (disch := omega) only [wp_X1_howMany, wp_X1_saidBits, e_bc, wp_X1_howManyDeeds, e_pricesOf hR hW, e_beginners hR hW, i1, e_there h1, e_there h2, e_keptN]
      simp [show nI 6 = 6 from rfl]
    · rw [e_counted hM hW]
      rw [e_88y h1]
  · refine ⟨nI (cn 4 (fun r => m2 r != 0)), fun post => ?_, fun post => ?_⟩
    · rw [wp_X7_count]
      simp (disch := omega) only [wp_X1_howMany, wp_X1_saidBits, e_bc, wp_X1_howManyDeeds, e_pricesOf hR hW, e_beginners hR hW, i1, e_there h1, e_there h2, e_keptN]
      simp [show nI 7 = 7 from rfl]
    · rw [e_counted hM hW]
      have g6 : nI 7 ≠ 6 := by decide
      rw [e_88n _ _ _ g6, e_130y h2]
  · refine ⟨nI (cn 3 (fun k => (kept k).isSome)), fun post => ?_, fun post => ?_⟩
    · rw [wp_X7_count]
      simp (disch := omega) only [wp_X1_howMany, wp_X1_saidBits, e_bc, wp_X1_howManyDeeds, e_pricesOf hR hW, e_beginners hR hW, i1, e_there h1, e_there h2, e_keptN]
      simp [show nI 8 = 8 from rfl]
    · rw [e_counted hM hW]
      have g6 : nI 8 ≠ 6 := by decide
      have g7 : nI 8 ≠ 7 := by decide
      rw [e_88n _ _ _ g6, e_130n _ _ _ g7, e_171y hK]
theorem s_digest (hR : HR kinds whos toWhoms topics weights answered n h) (hM : MH now n h) (hW : HW n h) (hs : s < 4096) (hs2 : now 2 = nI s) (hd : now 1 = nI dn) {m1 m2 : Nat → Nat} {rs rc rS rw ts tc tS tw : Nat → Int32} (h1 : SH 6 40 m1 rs rc rS rw) (hT : SH 4 80 m2 ts tc tS tw) {kept : Nat → Option Nat} {kM keeps kd : Nat → Int32} (hK : ∀ k, k < 3 → (kept k = none ∧ kM k = 0) ∨ (¬ kept k = none ∧ ¬ kM k = 0 ∧ kd k = keeps (115 * k + 1))) : wp_X7_digest 6 240 (nI 40) rs rc 4 320 (nI 80) ts tc kinds whos toWhoms topics weights answered (nI n) (nI s) (nI dn) kept kd (fun a => wp_X8_digest rS rw tS tw now keeps kM (fun a' => a = a')) := by
  have hn := hW.1
  have hKP : KP kept kM := fun k hk => by
    rcases hK k hk with ⟨a, b⟩ | ⟨a, b, -⟩
    · simp [a, b]
    · simp [a, b]
  obtain ⟨c, hc⟩ : ∃ c : Nat → Int32, ∀ k, k < 9 → (∀ post, wp_X7_count 6 rs 4 ts kinds whos toWhoms topics weights answered (nI n) (nI s) (nI dn) kept (nI k) post = post (c k)) ∧ (∀ post, wp_X8_counted rS tS now kM (nI k) post = post (c k)) :=
    ⟨fun k => if hk : k < 9 then (e_cnt hR hM hW hs hs2 hd h1 hT hKP k hk).choose else 0, fun k hk => by
      simp only [dif_pos hk]
      exact (e_cnt hR hM hW hs hs2 hd h1 hT hKP k hk).choose_spec⟩
  have z8 : (8 : Int32) = nI 8 := rfl
  have z9 : (9 : Int32) = nI 9 := rfl
  have zz3 : (3 : Int32) = nI 3 := rfl
  -- the kept ones
  have k7 : ∀ post x, (∃ zn, wl_X7_digest_86 6 240 (nI 40) rs rc 4 320 (nI 80) ts tc kept kd post zn x 0) = post (rf m2 80 tw 4 (rf m1 40 rw 6 (fo (fun k => (if kM k = 0 then (-1 : Int32) else keeps (115 * k + 1)).toInt64) 3 x))) := by
    intro post x
    refine lpG (σ := Int64 × Int32) (fun K z => wb_X7_digest_86 6 240 (nI 40) rs rc 4 320 (nI 80) ts tc kept kd post (fun a b => K (a, b)) z.1 z.2) (fun z y => wl_X7_digest_86 6 240 (nI 40) rs rc 4 320 (nI 80) ts tc kept kd post z y.1 y.2) (fun _ => rfl) (fun _ _ => rfl) 3 (fun k => (fo (fun k => (if kM k = 0 then (-1 : Int32) else keeps (115 * k + 1)).toInt64) k x, nI k)) _ (fun k K hk => ?_) (fun K => ?_)
    · have nk : ¬ 3 ≤ k := by omega
      show wb_X7_digest_86 6 240 (nI 40) rs rc 4 320 (nI 80) ts tc kept kd post (fun a b => K (a, b)) (fo (fun k => (if kM k = 0 then (-1 : Int32) else keeps (115 * k + 1)).toInt64) k x) (nI k) = K (fo (fun k => (if kM k = 0 then (-1 : Int32) else keeps (115 * k + 1)).toInt64) (k + 1) x, nI (k + 1))
      rcases hK k hk with ⟨a, b⟩ | ⟨a, b, d⟩
      · simp (disch := omega) only [wb_X7_digest_86, zz3, q_le, nk, q_in, q_cl, a, nI_1, fo, b]
        simp
      · simp (disch := omega) only [wb_X7_digest_86, zz3, q_le, nk, q_in, q_cl, a, d, nI_1, fo, b]
        simp
    · show wb_X7_digest_86 6 240 (nI 40) rs rc 4 320 (nI 80) ts tc kept kd post (fun a b => K (a, b)) _ (nI 3) = _
      simp (disch := omega) only [wb_X7_digest_86, zz3, q_le, e5_digest (nc := 240) h1 (by decide) (by decide) (by decide) (by decide), e5_digest (nc := 320) hT (by decide) (by decide) (by decide) (by decide)]
      rw [rf_cg (cl := rc) (cl' := rw) 6 _ (fun r hr i hi => (h1 r hr).2.2.2 i hi), rf_cg (cl := tc) (cl' := tw) 4 _ (fun r hr i hi => (hT r hr).2.2.2 i hi)]
      simp
  have k8 : ∀ post x, (∃ zn, wl_X8_digest_82 rS rw tS tw keeps kM post zn x 0) = post (rf m2 80 tw 4 (rf m1 40 rw 6 (fo (fun k => (if kM k = 0 then (-1 : Int32) else keeps (115 * k + 1)).toInt64) 3 x))) := by
    intro post x
    refine lpG (σ := Int64 × Int32) (fun K z => wb_X8_digest_82 rS rw tS tw keeps kM post (fun a b => K (a, b)) z.1 z.2) (fun z y => wl_X8_digest_82 rS rw tS tw keeps kM post z y.1 y.2) (fun _ => rfl) (fun _ _ => rfl) 3 (fun k => (fo (fun k => (if kM k = 0 then (-1 : Int32) else keeps (115 * k + 1)).toInt64) k x, nI k)) _ (fun k K hk => ?_) (fun K => ?_)
    · have nk : ¬ 3 ≤ k := by omega
      have ek : (115 : Int32) * nI k + 1 = nI (115 * k + 1) := by rw [show (115 : Int32) * nI k = nI (115 * k) from pk_mul 115 k, nI_1]
      show wb_X8_digest_82 rS rw tS tw keeps kM post (fun a b => K (a, b)) (fo (fun k => (if kM k = 0 then (-1 : Int32) else keeps (115 * k + 1)).toInt64) k x) (nI k) = K (fo (fun k => (if kM k = 0 then (-1 : Int32) else keeps (115 * k + 1)).toInt64) (k + 1) x, nI (k + 1))
      rcases hK k hk with ⟨a, b⟩ | ⟨a, b, d⟩
      · simp (disch := omega) only [wb_X8_digest_82, zz3, q_le, nk, ek, q_in, q_cl, nI_1, fo, b]
        simp
      · simp (disch := omega) only [wb_X8_digest_82, zz3, q_le, nk, ek, q_in, q_cl, nI_1, fo, b]
        simp
    · show wb_X8_digest_82 rS rw tS tw keeps kM post (fun a b => K (a, b)) _ (nI 3) = _
      simp (disch := omega) only [wb_X8_digest_82, zz3, q_le, e8_digR h1, e8_digT hT]
      simp
  -- the sayings
  have s7 : ∀ post x, (∃ zn, wl_X7_digest_33 6 240 (nI 40) rs rc 4 320 (nI 80) ts tc kinds whos toWhoms topics weights answered (nI n) (nI s) kept kd post zn x 0) = (∃ zn, wl_X7_digest_86 6 240 (nI 40) rs rc 4 320 (nI 80) ts tc kept kd post zn (h2 (fun i k => (factS n h s i k).toInt64) n x) 0) := by
    intro post x
    refine lpG (σ := Int64 × Int32) (fun K z => wb_X7_digest_33 6 240 (nI 40) rs rc 4 320 (nI 80) ts tc kinds whos toWhoms topics weights answered (nI n) (nI s) kept kd post (fun a b => K (a, b)) z.1 z.2) (fun z y => wl_X7_digest_33 6 240 (nI 40) rs rc 4 320 (nI 80) ts tc kinds whos toWhoms topics weights answered (nI n) (nI s) kept kd post z y.1 y.2) (fun _ => rfl) (fun _ _ => rfl) n (fun i => (h2 (fun i k => (factS n h s i k).toInt64) i x, nI i)) _ (fun i K hi => ?_) (fun K => ?_)
    · have ni : ¬ n ≤ i := by omega
      have inner : ∀ K5 : Int64 → Int32 → Prop, ∀ y, (∃ zn, wl_X7_digest_47 kinds whos toWhoms topics weights answered (nI n) (nI s) K5 zn y (nI i) 0) = K5 (fo (fun k => (factS n h s i k).toInt64) 8 y) (nI (i + 1)) := by
        intro K5 y
        refine lpG (σ := Int64 × Int32 × Int32) (fun K z => wb_X7_digest_47 kinds whos toWhoms topics weights answered (nI n) (nI s) K5 (fun a b c => K (a, b, c)) z.1 z.2.1 z.2.2) (fun z y => wl_X7_digest_47 kinds whos toWhoms topics weights answered (nI n) (nI s) K5 z y.1 y.2.1 y.2.2) (fun _ => rfl) (fun _ _ => rfl) 8 (fun k => (fo (fun k => (factS n h s i k).toInt64) k y, nI i, nI k)) _ (fun k K hk => ?_) (fun K => ?_)
        · have nk : ¬ 8 ≤ k := by omega
          show wb_X7_digest_47 kinds whos toWhoms topics weights answered (nI n) (nI s) K5 (fun a b c => K (a, b, c)) (fo (fun k => (factS n h s i k).toInt64) k y) (nI i) (nI k) = K (fo (fun k => (factS n h s i k).toInt64) (k + 1) y, nI i, nI (k + 1))
          simp (disch := omega) only [wb_X7_digest_47, z8, q_le, nk, e_fact hR hW hs hi hk, nI_1, fo]
          simp
        · show wb_X7_digest_47 kinds whos toWhoms topics weights answered (nI n) (nI s) K5 (fun a b c => K (a, b, c)) _ (nI i) (nI 8) = _
          simp (disch := omega) only [wb_X7_digest_47, z8, q_le, nI_1]
          simp
      show wb_X7_digest_33 6 240 (nI 40) rs rc 4 320 (nI 80) ts tc kinds whos toWhoms topics weights answered (nI n) (nI s) kept kd post (fun a b => K (a, b)) (h2 (fun i k => (factS n h s i k).toInt64) i x) (nI i) = K (h2 (fun i k => (factS n h s i k).toInt64) (i + 1) x, nI (i + 1))
      simp (disch := omega) only [wb_X7_digest_33, wp_X1_howMany, q_le, ni, inner, h2]
      simp
    · show wb_X7_digest_33 6 240 (nI 40) rs rc 4 320 (nI 80) ts tc kinds whos toWhoms topics weights answered (nI n) (nI s) kept kd post (fun a b => K (a, b)) _ (nI n) = _
      simp (disch := omega) only [wb_X7_digest_33, wp_X1_howMany, q_le]
      simp
  have s8 : ∀ post x, (∃ zn, wl_X8_digest_33 rS rw tS tw now keeps kM post zn x 0) = (∃ zn, wl_X8_digest_82 rS rw tS tw keeps kM post zn (h2 (fun i k => (factS n h s i k).toInt64) n x) 0) := by
    intro post x
    refine lpG (σ := Int64 × Int32) (fun K z => wb_X8_digest_33 rS rw tS tw now keeps kM post (fun a b => K (a, b)) z.1 z.2) (fun z y => wl_X8_digest_33 rS rw tS tw now keeps kM post z y.1 y.2) (fun _ => rfl) (fun _ _ => rfl) n (fun i => (h2 (fun i k => (factS n h s i k).toInt64) i x, nI i)) _ (fun i K hi => ?_) (fun K => ?_)
    · have ni : ¬ n ≤ i := by omega
      have inner : ∀ K5 : Int64 → Int32 → Prop, ∀ y, (∃ zn, wl_X8_digest_46 now K5 zn y (nI i) 0) = K5 (fo (fun k => (factS n h s i k).toInt64) 8 y) (nI (i + 1)) := by
        intro K5 y
        refine lpG (σ := Int64 × Int32 × Int32) (fun K z => wb_X8_digest_46 now K5 (fun a b c => K (a, b, c)) z.1 z.2.1 z.2.2) (fun z y => wl_X8_digest_46 now K5 z y.1 y.2.1 y.2.2) (fun _ => rfl) (fun _ _ => rfl) 8 (fun k => (fo (fun k => (factS n h s i k).toInt64) k y, nI i, nI k)) _ (fun k K hk => ?_) (fun K => ?_)
        · have nk : ¬ 8 ≤ k := by omega
          show wb_X8_digest_46 now K5 (fun a b c => K (a, b, c)) (fo (fun k => (factS n h s i k).toInt64) k y) (nI i) (nI k) = K (fo (fun k => (factS n h s i k).toInt64) (k + 1) y, nI i, nI (k + 1))
          simp (disch := omega) only [wb_X8_digest_46, z8, q_le, nk, e_told hM hW hs hs2 hi hk, nI_1, fo]
          simp
        · show wb_X8_digest_46 now K5 (fun a b c => K (a, b, c)) _ (nI i) (nI 8) = _
          simp (disch := omega) only [wb_X8_digest_46, z8, q_le, nI_1]
          simp
      show wb_X8_digest_33 rS rw tS tw now keeps kM post (fun a b => K (a, b)) (h2 (fun i k => (factS n h s i k).toInt64) i x) (nI i) = K (h2 (fun i k => (factS n h s i k).toInt64) (i + 1) x, nI (i + 1))
      simp (disch := omega) only [wb_X8_digest_33, hM.1, q_le, ni, inner, h2]
      simp
    · show wb_X8_digest_33 rS rw tS tw now keeps kM post (fun a b => K (a, b)) _ (nI n) = _
      simp (disch := omega) only [wb_X8_digest_33, hM.1, q_le]
      simp
  have c7 : ∀ post, wp_X7_digest 6 240 (nI 40) rs rc 4 320 (nI 80) ts tc kinds whos toWhoms topics weights answered (nI n) (nI s) (nI dn) kept kd post = post (rf m2 80 tw 4 (rf m1 40 rw 6 (fo (fun k => (if kM k = 0 then (-1 : Int32) else keeps (115 * k + 1)).toInt64) 3 (h2 (fun i k => (factS n h s i k).toInt64) n (fo (fun k => (c k).toInt64) 9 17))))) := by
    intro post
    refine lpG (σ := Int64 × Int32) (fun K z => wb_X7_digest_6 6 240 (nI 40) rs rc 4 320 (nI 80) ts tc kinds whos toWhoms topics weights answered (nI n) (nI s) (nI dn) kept kd post (fun a b => K (a, b)) z.1 z.2) (fun z y => wl_X7_digest_6 6 240 (nI 40) rs rc 4 320 (nI 80) ts tc kinds whos toWhoms topics weights answered (nI n) (nI s) (nI dn) kept kd post z y.1 y.2) (fun _ => rfl) (fun _ _ => rfl) 9 (fun k => (fo (fun k => (c k).toInt64) k 17, nI k)) _ (fun k K hk => ?_) (fun K => ?_)
    · have nk : ¬ 9 ≤ k := by omega
      show wb_X7_digest_6 6 240 (nI 40) rs rc 4 320 (nI 80) ts tc kinds whos toWhoms topics weights answered (nI n) (nI s) (nI dn) kept kd post (fun a b => K (a, b)) (fo (fun k => (c k).toInt64) k 17) (nI k) = K (fo (fun k => (c k).toInt64) (k + 1) 17, nI (k + 1))
      simp (disch := omega) only [wb_X7_digest_6, z9, q_le, nk, (hc k hk).1, nI_1, fo]
      simp
    · show wb_X7_digest_6 6 240 (nI 40) rs rc 4 320 (nI 80) ts tc kinds whos toWhoms topics weights answered (nI n) (nI s) (nI dn) kept kd post (fun a b => K (a, b)) _ (nI 9) = _
      simp (disch := omega) only [wb_X7_digest_6, z9, q_le, s7, k7]
      simp
  have c8 : ∀ post, wp_X8_digest rS rw tS tw now keeps kM post = post (rf m2 80 tw 4 (rf m1 40 rw 6 (fo (fun k => (if kM k = 0 then (-1 : Int32) else keeps (115 * k + 1)).toInt64) 3 (h2 (fun i k => (factS n h s i k).toInt64) n (fo (fun k => (c k).toInt64) 9 17))))) := by
    intro post
    refine lpG (σ := Int64 × Int32) (fun K z => wb_X8_digest_6 rS rw tS tw now keeps kM post (fun a b => K (a, b)) z.1 z.2) (fun z y => wl_X8_digest_6 rS rw tS tw now keeps kM post z y.1 y.2) (fun _ => rfl) (fun _ _ => rfl) 9 (fun k => (fo (fun k => (c k).toInt64) k 17, nI k)) _ (fun k K hk => ?_) (fun K => ?_)
    · have nk : ¬ 9 ≤ k := by omega
      show wb_X8_digest_6 rS rw tS tw now keeps kM post (fun a b => K (a, b)) (fo (fun k => (c k).toInt64) k 17) (nI k) = K (fo (fun k => (c k).toInt64) (k + 1) 17, nI (k + 1))
      simp (disch := omega) only [wb_X8_digest_6, z9, q_le, nk, (hc k hk).2, nI_1, fo]
      simp
    · show wb_X8_digest_6 rS rw tS tw now keeps kM post (fun a b => K (a, b)) _ (nI 9) = _
      simp (disch := omega) only [wb_X8_digest_6, z9, q_le, s8, k8]
      simp
  rw [c7, c8]
end DH
