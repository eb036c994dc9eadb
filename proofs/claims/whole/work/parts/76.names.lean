/-! names: what is to be awaited, over all who come and over all rows of who comes -/
def sumI : Nat → (Nat → Int) → Int
  | 0, _ => 0
  | n + 1, f => sumI n f + f n
theorem sumI_s (f : Nat → Int) : ∀ n, sumI (n + 1) f = f 0 + sumI n (fun k => f (k + 1))
  | 0 => by simp [sumI]
  | n + 1 => by rw [sumI, sumI_s f n, sumI, Int.add_assoc]
theorem sumI_lin (a b : Int) (f g : Nat → Int) : ∀ n, sumI n (fun k => a * f k + b * g k) = a * sumI n f + b * sumI n g
  | 0 => by simp [sumI]
  | n + 1 => by
    rw [sumI, sumI_lin a b f g n, sumI, sumI, Int.mul_add, Int.mul_add]
    omega
theorem sumI_mul (a : Int) (f : Nat → Int) : ∀ n, sumI n (fun k => a * f k) = a * sumI n f
  | 0 => by simp [sumI]
  | n + 1 => by rw [sumI, sumI_mul a f n, sumI, Int.mul_add]
theorem sumI_add (f : Nat → Int) (a : Nat) : ∀ b, sumI (a + b) f = sumI a f + sumI b (fun k => f (a + k))
  | 0 => by simp [sumI]
  | b + 1 => by rw [← Nat.add_assoc, sumI, sumI_add f a b, sumI, Int.add_assoc]
theorem sumI_same {f g : Nat → Int} : ∀ n, (∀ k, k < n → f k = g k) → sumI n f = sumI n g
  | 0, _ => rfl
  | n + 1, h => by rw [sumI, sumI, sumI_same n (fun k hk => h k (by omega)), h n (by omega)]
def cb : Nat → Nat → Nat
  | _, 0 => 1
  | 0, _ + 1 => 0
  | n + 1, k + 1 => cb n k + cb n (k + 1)
theorem cb_0 : ∀ n k, n < k → cb n k = 0
  | 0, k + 1, _ => by rw [cb]
  | n + 1, k + 1, h => by rw [cb, cb_0 n k (by omega), cb_0 n (k + 1) (by omega)]
theorem cb_z (n : Nat) : cb n 0 = 1 := by cases n <;> rw [cb]
def prb (p q : Int) (n k : Nat) : Int := ((cb n k : Nat) : Int) * p ^ k * q ^ (n - k)
theorem prb_z (p q : Int) (n : Nat) : prb p q (n + 1) 0 = q * prb p q n 0 := by
  unfold prb
  rw [cb_z, cb_z, Nat.sub_zero, Nat.sub_zero, Int.pow_succ]
  simp only [Int.mul_comm, Int.mul_left_comm, Int.mul_assoc]
theorem prb_s (p q : Int) {n k : Nat} (h : k ≤ n) : prb p q (n + 1) (k + 1) = p * prb p q n k + q * prb p q n (k + 1) := by
  unfold prb
  rw [cb, Nat.add_sub_add_right, Int.pow_succ]
  by_cases e : k = n
  · subst e
    rw [cb_0 k (k + 1) (by omega)]
    simp only [Nat.add_zero, Nat.sub_self, Int.pow_zero, Int.mul_one, Int.natCast_zero, Int.zero_mul, Int.mul_zero, Int.add_zero]
    simp only [Int.mul_comm, Int.mul_left_comm, Int.mul_assoc]
  · have : n - k = (n - (k + 1)) + 1 := by omega
    rw [this, Int.pow_succ, Int.natCast_add]
    simp only [Int.add_mul, Int.mul_add, Int.mul_comm, Int.mul_left_comm, Int.mul_assoc]
def wI (p q : Int) : Nat → (Nat → Int) → Int
  | 0, f => f 0
  | n + 1, f => q * wI p q n f + p * wI p q n (fun k => f (k + 1))
theorem w_cl (p q : Int) : ∀ (n : Nat) (f : Nat → Int), sumI (n + 1) (fun k => prb p q n k * f k) = wI p q n f
  | 0, f => by simp [sumI, prb, cb, wI]
  | n + 1, f => by
    have h1 : sumI (n + 1) (fun k => prb p q (n + 1) (k + 1) * f (k + 1)) = p * sumI (n + 1) (fun k => prb p q n k * f (k + 1)) + q * sumI (n + 1) (fun k => prb p q n (k + 1) * f (k + 1)) := by
      rw [← sumI_lin]
      refine sumI_same _ (fun k hk => ?_)
      rw [prb_s p q (by omega), Int.add_mul, Int.mul_assoc, Int.mul_assoc]
    have h2 : sumI (n + 1 + 1) (fun k => prb p q n k * f k) = wI p q n f := by
      rw [sumI, w_cl p q n f]
      unfold prb
      rw [cb_0 n (n + 1) (by omega)]
      simp
    have h3 : wI p q n f = prb p q n 0 * f 0 + sumI (n + 1) (fun k => prb p q n (k + 1) * f (k + 1)) := by rw [← h2, sumI_s]
    rw [sumI_s, h1, prb_z, wI, w_cl p q n (fun k => f (k + 1)), h3, Int.mul_add, Int.mul_assoc]
    omega
def bP (p q : Int) (m : Nat) : Nat → Int
  | 0 => 1
  | j + 1 => bP p q m j * (if m.testBit j = true then p else q)
def bC (m : Nat) : Nat → Nat
  | 0 => 0
  | j + 1 => bC m j + (if m.testBit j = true then 1 else 0)
theorem bP_hi (p q : Int) (n m : Nat) : ∀ j, j ≤ n → bP p q (2 ^ n + m) j = bP p q m j
  | 0, _ => rfl
  | j + 1, h => by rw [bP, bP, bP_hi p q n m j (by omega), Nat.testBit_two_pow_add_gt (by omega)]
theorem bC_hi (n m : Nat) : ∀ j, j ≤ n → bC (2 ^ n + m) j = bC m j
  | 0, _ => rfl
  | j + 1, h => by rw [bC, bC, bC_hi n m j (by omega), Nat.testBit_two_pow_add_gt (by omega)]
theorem w_ms (p q : Int) : ∀ (n : Nat) (f : Nat → Int), sumI (2 ^ n) (fun m => bP p q m n * f (bC m n)) = wI p q n f
  | 0, f => by simp [sumI, bP, bC, wI]
  | n + 1, f => by
    rw [Nat.pow_succ, Nat.mul_two, sumI_add, wI, ← w_ms p q n f, ← w_ms p q n (fun k => f (k + 1)), ← sumI_mul, ← sumI_mul]
    congr 1
    · refine sumI_same _ (fun m hm => ?_)
      rw [bP, bC, Nat.testBit_lt_two_pow hm, if_neg (by decide), if_neg (by decide), Nat.add_zero, Int.mul_assoc, Int.mul_left_comm]
    · refine sumI_same _ (fun m hm => ?_)
      rw [bP, bC, Nat.testBit_two_pow_add_eq, Nat.testBit_lt_two_pow hm, bP_hi p q n m n (Nat.le_refl n), bC_hi n m n (Nat.le_refl n), Bool.not_false, if_pos rfl, if_pos rfl, Int.mul_assoc, Int.mul_left_comm]
theorem w_b (p q M : Int) (hp : 0 ≤ p) (hq : 0 ≤ q) (hs : p + q = 100) : ∀ (n : Nat) (f : Nat → Int), (∀ k, k ≤ n → -M ≤ f k ∧ f k ≤ M) → -(M * 100 ^ n) ≤ wI p q n f ∧ wI p q n f ≤ M * 100 ^ n
  | 0, f, h => by
    have := h 0 (Nat.le_refl 0)
    rw [wI, Int.pow_zero, Int.mul_one]
    exact this
  | n + 1, f, h => by
    obtain ⟨a1, a2⟩ := w_b p q M hp hq hs n f (fun k hk => h k (by omega))
    obtain ⟨b1, b2⟩ := w_b p q M hp hq hs n (fun k => f (k + 1)) (fun k hk => h (k + 1) (by omega))
    have e : M * 100 ^ (n + 1) = q * (M * 100 ^ n) + p * (M * 100 ^ n) := by
      rw [← Int.add_mul, Int.add_comm q p, hs, Int.pow_succ, Int.mul_comm (100 ^ n) 100, Int.mul_left_comm]
    have c1 := Int.mul_le_mul_of_nonneg_left a2 hq
    have c2 := Int.mul_le_mul_of_nonneg_left b2 hp
    have c3 := Int.mul_le_mul_of_nonneg_left a1 hq
    have c4 := Int.mul_le_mul_of_nonneg_left b1 hp
    rw [Int.mul_neg] at c3 c4
    rw [wI, e]
    omega
def fI (c w e k : Nat) : Int := if k ≤ c then (w * k : Nat) else ((w * c : Nat) : Int) - (e * (k - c) : Nat)
theorem f_tab : ∀ c, c < 9 → ∀ k, k < 9 → ∀ w, w < 10 → ∀ e, e < 10 →
    ((nI w * (if nI c < nI k then nI c else nI k)) - (nI e * (if (0 : Int32) < nI k - nI c then nI k - nI c else 0))).toInt64 = Int64.ofInt (fI c w e k) ∧
    (if nI k ≤ nI c then nI w * nI k else nI w * nI c - nI e * (nI k - nI c)).toInt64 = Int64.ofInt (fI c w e k) ∧ -72 ≤ fI c w e k ∧ fI c w e k ≤ 72 := by decide +kernel
theorem ch_tab : ∀ n, n < 9 → ∀ i, i < 8 → i < n → ¬ (nI (i + 1)).toInt64 = 0 ∧ (Int64.ofInt (cb n i : Nat) * ((nI n - nI (i + 1)) + 1).toInt64) / (nI (i + 1)).toInt64 = Int64.ofInt (cb n (i + 1) : Nat) := by decide +kernel
theorem p_tab : ∀ p, p < 101 → (nI p).toInt64 = Int64.ofInt (p : Nat) ∧ ((100 : Int32) - nI p).toInt64 = Int64.ofInt (100 - (p : Nat)) := by decide +kernel
theorem b_tab : ∀ m, m < 256 → ∀ j, j < 8 → (((nI m >>> (nI j &&& 31)) &&& (1 : Int32)) = 1 ↔ m.testBit j = true) := by decide +kernel
theorem s_tab : ∀ n, n < 9 → ((1 : Int32) <<< (nI n &&& 31)) = nI (2 ^ n) := by decide +kernel
theorem o64 : (1 : Int64) = Int64.ofInt 1 := by decide +kernel
theorem h64 : (100 : Int64) = Int64.ofInt 100 := by decide +kernel
theorem z64 : (0 : Int64) = Int64.ofInt 0 := by decide +kernel
theorem pow_ev (a : Int) {k : Nat} (hk : k < 1000) : CT_power (Int64.ofInt a) (nI k) = some (Int64.ofInt (a ^ k)) := by
  unfold CT_power
  rw [show (1 : Int64) = Int64.ofInt (a ^ 0) by rw [Int.pow_zero]; exact o64]
  refine loopQ k (fun f i (_ : Unit) => CT_power_5 f (Int64.ofInt a) (nI k) (Int64.ofInt (a ^ i)) (nI i)) (fun _ _ => True) (fun r => r = some (Int64.ofInt (a ^ k))) ?_ ?_ fuel 0 () (by omega) (by have := fuel_big; omega) trivial
  · intro f i _ hi _
    right
    refine ⟨(), ?_, trivial⟩
    try dsimp only
    rw [CT_power_5, if_neg (le_no hi (by omega)), nI_s, ← Int64.ofInt_mul, ← Int.pow_succ]
  · intro f _ _
    try dsimp only
    rw [CT_power_5, if_pos (le_ye (Nat.le_refl k) (by omega))]
theorem hun_ev {k : Nat} (hk : k < 1000) : M_hundreds (nI k) = some (Int64.ofInt (100 ^ k)) := by
  unfold M_hundreds
  rw [show (1 : Int64) = Int64.ofInt (100 ^ 0) by rw [Int.pow_zero]; exact o64]
  refine loopQ k (fun f i (_ : Unit) => M_hundreds_4 f (nI k) (Int64.ofInt (100 ^ i)) (nI i)) (fun _ _ => True) (fun r => r = some (Int64.ofInt (100 ^ k))) ?_ ?_ fuel 0 () (by omega) (by have := fuel_big; omega) trivial
  · intro f i _ hi _
    right
    refine ⟨(), ?_, trivial⟩
    try dsimp only
    rw [M_hundreds_4, if_neg (le_no hi (by omega)), nI_s, h64, ← Int64.ofInt_mul, ← Int.pow_succ]
  · intro f _ _
    try dsimp only
    rw [M_hundreds_4, if_pos (le_ye (Nat.le_refl k) (by omega))]
theorem cho_ev {n k : Nat} (hn : n < 9) (hk : k ≤ n) : CT_choices (nI n) (nI k) = some (Int64.ofInt (cb n k : Nat)) := by
  unfold CT_choices
  rw [show (1 : Int64) = Int64.ofInt (cb n 0 : Nat) by rw [cb_z]; exact o64]
  refine loopQ k (fun f i (_ : Unit) => CT_choices_5 f (nI n) (nI k) (Int64.ofInt (cb n i : Nat)) (nI (i + 1))) (fun _ _ => True) (fun r => r = some (Int64.ofInt (cb n k : Nat))) ?_ ?_ fuel 0 () (by omega) (by have := fuel_big; omega) trivial
  · intro f i _ hi _
    right
    refine ⟨(), ?_, trivial⟩
    obtain ⟨c1, c2⟩ := ch_tab n hn i (by omega) (by omega)
    try dsimp only
    rw [CT_choices_5, if_neg (show ¬ nI k < nI (i + 1) by rw [nI_lt_iff (by omega) (by omega)]; omega), if_pos c1, c2, nI_s]
  · intro f _ _
    try dsimp only
    rw [CT_choices_5, if_pos (show nI k < nI (k + 1) by rw [nI_lt_iff (by omega) (by omega)]; omega)]
def awI (n p c w e : Nat) : Int := wI (p : Nat) (100 - (p : Nat)) n (fI c w e)
theorem awC {n p c w e : Nat} (hn : n < 9) (hp : p < 101) (hc : c < 9) (hw : w < 10) (he : e < 10) : CT_awaited (nI n) (nI p) (nI c) (nI w) (nI e) = some (Int64.ofInt (awI n p c w e)) := by
  obtain ⟨p1, p2⟩ := p_tab p hp
  unfold CT_awaited awI
  rw [← w_cl]
  rw [show (0 : Int64) = Int64.ofInt (sumI 0 (fun k => prb (p : Nat) (100 - (p : Nat)) n k * fI c w e k)) from z64]
  refine loopQ (n + 1) (fun f i (_ : Unit) => CT_awaited_6 f (nI n) (nI p) (nI c) (nI w) (nI e) (Int64.ofInt (sumI i (fun k => prb (p : Nat) (100 - (p : Nat)) n k * fI c w e k))) (nI i)) (fun _ _ => True) (fun r => r = some (Int64.ofInt (sumI (n + 1) (fun k => prb (p : Nat) (100 - (p : Nat)) n k * fI c w e k)))) ?_ ?_ fuel 0 () (by omega) (by have := fuel_big; omega) trivial
  · intro f i _ hi _
    right
    refine ⟨(), ?_, trivial⟩
    obtain ⟨f1, -⟩ := f_tab c hc i (by omega) w hw e he
    try dsimp only
    rw [CT_awaited_6, if_neg (show ¬ nI n < nI i by rw [nI_lt_iff (by omega) (by omega)]; omega), cho_ev hn (by omega), bnd0_s, p1, pow_ev _ (by omega), bnd0_s, p2, nI_subN (by omega) (by omega), pow_ev _ (by omega), bnd0_s, f1, ← Int64.ofInt_mul, ← Int64.ofInt_mul, ← Int64.ofInt_mul, ← Int64.ofInt_add, nI_s]
    rfl
  · intro f _ _
    try dsimp only
    rw [CT_awaited_6, if_pos (show nI n < nI (n + 1) by rw [nI_lt_iff (by omega) (by omega)]; omega)]
theorem bC_le (m : Nat) : ∀ j, bC m j ≤ j
  | 0 => by rw [bC]; omega
  | j + 1 => by
    have := bC_le m j
    rw [bC]
    split <;> omega
theorem awM_in {n p c w e m : Nat} (hn : n < 9) (hp : p < 101) (hc : c < 9) (hw : w < 10) (he : e < 10) (hm : m < 256) (k6 : Int32 → Int32 → Int32 → Int32 → Int32 → Int64 → Int32 → Option Int64) (x5 : Int64) :
    M_awaited_23 k6 fuel (nI n) (nI p) (nI c) (nI w) (nI e) x5 (nI m) 1 0 0 = k6 (nI n) (nI p) (nI c) (nI w) (nI e) (x5 + Int64.ofInt (bP (p : Nat) (100 - (p : Nat)) m n * fI c w e (bC m n))) (nI (m + 1)) := by
  obtain ⟨p1, p2⟩ := p_tab p hp
  rw [show (1 : Int64) = Int64.ofInt (bP (p : Nat) (100 - (p : Nat)) m 0) from o64]
  refine loopQ n (fun f j (_ : Unit) => M_awaited_23 k6 f (nI n) (nI p) (nI c) (nI w) (nI e) x5 (nI m) (Int64.ofInt (bP (p : Nat) (100 - (p : Nat)) m j)) (nI (bC m j)) (nI j)) (fun _ _ => True) (fun r => r = k6 (nI n) (nI p) (nI c) (nI w) (nI e) (x5 + Int64.ofInt (bP (p : Nat) (100 - (p : Nat)) m n * fI c w e (bC m n))) (nI (m + 1))) ?_ ?_ fuel 0 () (by omega) (by have := fuel_big; omega) trivial
  · intro f j _ hj _
    right
    refine ⟨(), ?_, trivial⟩
    have bt := b_tab m hm j (by omega)
    try dsimp only
    rw [M_awaited_23, if_neg (le_no hj (by omega)), bP, bC]
    unfold M_awaited_45 M_awaited_59 M_awaited_79
    by_cases q : m.testBit j = true
    · rw [if_pos (bt.mpr q), if_neg (by decide), if_neg (by decide), if_pos q, if_pos q, p1, ← Int64.ofInt_mul, nI_s, nI_s]
    · rw [if_neg (fun z => q (bt.mp z)), if_pos rfl, if_pos rfl, if_neg q, if_neg q, p2, ← Int64.ofInt_mul, nI_s, Int32.add_zero]
      rfl
  · intro f _ _
    have bl := bC_le m n
    obtain ⟨-, f2, -⟩ := f_tab c hc (bC m n) (by omega) w hw e he
    try dsimp only
    rw [M_awaited_23, if_pos (le_ye (Nat.le_refl n) (by omega))]
    unfold M_awaited_116
    by_cases q : nI (bC m n) ≤ nI c
    · rw [if_pos q] at f2
      rw [if_pos q, f2, ← Int64.ofInt_mul, nI_s]
    · rw [if_neg q] at f2
      rw [if_neg q, f2, ← Int64.ofInt_mul, nI_s]
theorem pow_256 : ∀ n, n < 9 → 2 ^ n ≤ 256 := by decide
theorem awM {n p c w e : Nat} (hn : n < 9) (hp : p < 101) (hc : c < 9) (hw : w < 10) (he : e < 10) : M_awaited (nI n) (nI p) (nI c) (nI w) (nI e) = some (Int64.ofInt (awI n p c w e)) := by
  have h256 := pow_256 n hn
  unfold M_awaited awI
  rw [← w_ms]
  rw [show (0 : Int64) = Int64.ofInt (sumI 0 (fun m => bP (p : Nat) (100 - (p : Nat)) m n * fI c w e (bC m n))) from z64]
  refine loopQ (2 ^ n) (fun f i (_ : Unit) => M_awaited_6 f (nI n) (nI p) (nI c) (nI w) (nI e) (Int64.ofInt (sumI i (fun m => bP (p : Nat) (100 - (p : Nat)) m n * fI c w e (bC m n)))) (nI i)) (fun _ _ => True) (fun r => r = some (Int64.ofInt (sumI (2 ^ n) (fun m => bP (p : Nat) (100 - (p : Nat)) m n * fI c w e (bC m n))))) ?_ ?_ fuel 0 () (Nat.zero_le _) (by have := fuel_big; omega) trivial
  · intro f i _ hi _
    right
    refine ⟨(), ?_, trivial⟩
    try dsimp only
    rw [M_awaited_6, s_tab n hn, if_neg (le_no hi (by omega)), awM_in hn hp hc hw he (by omega), ← Int64.ofInt_add]
    rfl
  · intro f _ _
    try dsimp only
    rw [M_awaited_6, s_tab n hn, if_pos (le_ye (Nat.le_refl _) (by omega))]
theorem aw_b {n p c w e : Nat} (hn : n < 9) (hp : p < 101) (hc : c < 9) (hw : w < 10) (he : e < 10) : (awI n p c w e).natAbs ≤ 720000000000000000 := by
  have hpow : ∀ n, n < 9 → (100 : Int) ^ n ≤ 10000000000000000 := by decide
  have h1 := hpow n hn
  have := w_b (p : Nat) (100 - (p : Nat)) 72 (by omega) (by omega) (by omega) n (fI c w e) (fun k hk => (f_tab c hc k (by omega) w hw e he).2.2)
  unfold awI
  omega
/-! the greatest common divisor -/
theorem I_T {a : Nat} (h : a < 9223372036854775808) : (Int64.ofInt (a : Nat)).toInt = a := Int64.toInt_ofInt_of_le (by omega) (by omega)
theorem I_mod {a b : Nat} (ha : a < 9223372036854775808) (hb : b < 9223372036854775808) : Int64.ofInt (a : Nat) - Int64.ofInt (a : Nat) / Int64.ofInt (b : Nat) * Int64.ofInt (b : Nat) = Int64.ofInt ((a % b : Nat) : Int) := by
  have m1 : Int64.minValue.toInt = -9223372036854775808 := by decide
  have m2 : Int64.maxValue.toInt = 9223372036854775807 := by decide
  rw [← Int64.ofInt_tdiv (by omega) (by omega) (by omega) (by omega), ← Int64.ofInt_mul, ← Int64.ofInt_sub]
  congr 1
  rw [← Int.ofNat_tdiv]
  have := Nat.div_add_mod a b
  rw [Nat.mul_comm] at this
  have h2 : ((a / b * b : Nat) : Int) = ((a / b : Nat) : Int) * (b : Nat) := Int.natCast_mul _ _
  omega
theorem I_0 {b : Nat} (hb : b < 9223372036854775808) : Int64.ofInt (b : Nat) = 0 ↔ b = 0 := by
  rw [← Int64.toInt_inj, I_T hb, Int64.toInt_zero]; omega
theorem cmp_0 {x : Int64} : lg_cmp x 0 = 0 ↔ x = 0 := by
  unfold lg_cmp
  by_cases h1 : x > 0
  · rw [if_pos h1]
    constructor
    · intro h; exact absurd h (by decide)
    · intro h; rw [h] at h1; exact absurd h1 (by decide)
  · rw [if_neg h1]
    by_cases h2 : x = 0
    · rw [if_pos h2]; exact ⟨fun _ => h2, fun _ => rfl⟩
    · rw [if_neg h2]
      exact ⟨fun h => absurd h (by decide), fun h => absurd h h2⟩
theorem gcd_st (a b : Nat) : Nat.gcd a b = Nat.gcd b (a % b) := by rw [Nat.gcd_comm a b, Nat.gcd_rec b a, Nat.gcd_comm]
theorem half {b r : Nat} (h0 : 0 < r) (h : r < b) : 2 * (b % r) < b := by
  have h1 := Nat.mod_lt b h0
  have h2 := Nat.div_add_mod b r
  have h3 : 1 ≤ b / r := (Nat.le_div_iff_mul_le h0).mpr (by omega)
  have h4 : r * 1 ≤ r * (b / r) := Nat.mul_le_mul_left r h3
  omega
theorem gcdC : ∀ (j a b t f : Nat), a < 9223372036854775808 → b < 2 ^ j → j ≤ 60 → t + 2 * j < 200 → 2 * j < f → CT_commonDivisor_9 f (Int64.ofInt (a : Nat)) (Int64.ofInt (b : Nat)) (nI t) = some (Int64.ofInt ((Nat.gcd a b : Nat) : Int)) := by
  have st0 : ∀ (a t f : Nat), t < 200 → 0 < f → CT_commonDivisor_9 f (Int64.ofInt (a : Nat)) (Int64.ofInt ((0 : Nat) : Int)) (nI t) = some (Int64.ofInt ((Nat.gcd a 0 : Nat) : Int)) := by
    intro a t f ht hf
    obtain ⟨f, rfl⟩ : ∃ f', f = f' + 1 := ⟨f - 1, by omega⟩
    rw [CT_commonDivisor_9, if_neg (show ¬ (200 : Int32) ≤ nI t by rw [show (200 : Int32) = nI 200 from by decide]; exact le_no ht (by omega)), if_pos (cmp_0.mpr ((I_0 (by omega)).mpr rfl)), Nat.gcd_zero_right]
    rfl
  have st1 : ∀ (a b t f : Nat), a < 9223372036854775808 → b < 9223372036854775808 → b ≠ 0 → t < 200 → CT_commonDivisor_9 (f + 1) (Int64.ofInt (a : Nat)) (Int64.ofInt (b : Nat)) (nI t) = CT_commonDivisor_9 f (Int64.ofInt (b : Nat)) (Int64.ofInt ((a % b : Nat) : Int)) (nI (t + 1)) := by
    intro a b t f ha hb h0 ht
    rw [CT_commonDivisor_9, if_neg (show ¬ (200 : Int32) ≤ nI t by rw [show (200 : Int32) = nI 200 from by decide]; exact le_no ht (by omega)), if_neg (fun z => h0 ((I_0 hb).mp (cmp_0.mp z))), if_pos (fun z => h0 ((I_0 hb).mp z)), I_mod ha hb, nI_s]
  intro j
  induction j with
  | zero =>
    intro a b t f ha hb _ ht hf
    have : b = 0 := by rw [Nat.pow_zero] at hb; omega
    subst this
    exact st0 a t f (by omega) (by omega)
  | succ j ih =>
    intro a b t f ha hb hj ht hf
    have hb2 : b < 9223372036854775808 := by
      have : (2 : Nat) ^ (j + 1) ≤ 2 ^ 60 := Nat.pow_le_pow_right (by omega) hj
      have : (2 : Nat) ^ 60 < 9223372036854775808 := by decide
      omega
    by_cases e : b = 0
    · subst e; exact st0 a t f (by omega) (by omega)
    obtain ⟨f, rfl⟩ : ∃ f', f = f' + 1 := ⟨f - 1, by omega⟩
    have hr := Nat.mod_lt a (Nat.pos_of_ne_zero e)
    rw [st1 a b t f ha hb2 e (by omega), gcd_st a b]
    by_cases e2 : a % b = 0
    · rw [e2]; exact st0 b (t + 1) f (by omega) (by omega)
    obtain ⟨f, rfl⟩ : ∃ f', f = f' + 1 := ⟨f - 1, by omega⟩
    have hh := half (Nat.pos_of_ne_zero e2) hr
    rw [st1 b (a % b) (t + 1) f hb2 (by omega) e2 (by omega), gcd_st b (a % b)]
    exact ih _ _ _ _ (by omega) (by rw [Nat.pow_succ] at hb; omega) (by omega) (by omega) (by omega)
theorem gcdM (x0 x2 : Int64) (x4 : Int32) : ∀ (j a b f : Nat), a < 9223372036854775808 → b < 2 ^ j → j ≤ 60 → 2 * j < f → Nat.gcd a b ≠ 0 → Nat.gcd a b < 9223372036854775808 → M_share_17 f x0 x2 x4 (Int64.ofInt (a : Nat)) (Int64.ofInt (b : Nat)) = some (if x4 = 0 then x0 / Int64.ofInt ((Nat.gcd a b : Nat) : Int) else x2 / Int64.ofInt ((Nat.gcd a b : Nat) : Int)) := by
  have st0 : ∀ (a f : Nat), a < 9223372036854775808 → 0 < f → Nat.gcd a 0 ≠ 0 → M_share_17 f x0 x2 x4 (Int64.ofInt (a : Nat)) (Int64.ofInt ((0 : Nat) : Int)) = some (if x4 = 0 then x0 / Int64.ofInt ((Nat.gcd a 0 : Nat) : Int) else x2 / Int64.ofInt ((Nat.gcd a 0 : Nat) : Int)) := by
    intro a f ha hf hg
    rw [Nat.gcd_zero_right] at *
    obtain ⟨f, rfl⟩ : ∃ f', f = f' + 1 := ⟨f - 1, by omega⟩
    rw [M_share_17, if_pos (cmp_0.mpr ((I_0 (by omega)).mpr rfl))]
    have h1 : ¬ Int64.ofInt (a : Nat) = 0 := fun z => hg ((I_0 ha).mp z)
    unfold M_share_58
    by_cases q : x4 = 0
    · rw [if_pos q, if_pos q, if_pos h1]
    · rw [if_neg q, if_neg q, if_pos h1]
  have st1 : ∀ (a b f : Nat), a < 9223372036854775808 → b < 9223372036854775808 → b ≠ 0 → M_share_17 (f + 1) x0 x2 x4 (Int64.ofInt (a : Nat)) (Int64.ofInt (b : Nat)) = M_share_17 f x0 x2 x4 (Int64.ofInt (b : Nat)) (Int64.ofInt ((a % b : Nat) : Int)) := by
    intro a b f ha hb h0
    rw [M_share_17, if_neg (fun z => h0 ((I_0 hb).mp (cmp_0.mp z))), if_pos (fun z => h0 ((I_0 hb).mp z)), I_mod ha hb]
  intro j
  induction j with
  | zero =>
    intro a b f ha hb _ hf hg _
    have : b = 0 := by rw [Nat.pow_zero] at hb; omega
    subst this
    exact st0 a f ha (by omega) hg
  | succ j ih =>
    intro a b f ha hb hj hf hg hg2
    have hb2 : b < 9223372036854775808 := by
      have : (2 : Nat) ^ (j + 1) ≤ 2 ^ 60 := Nat.pow_le_pow_right (by omega) hj
      have : (2 : Nat) ^ 60 < 9223372036854775808 := by decide
      omega
    by_cases e : b = 0
    · subst e; exact st0 a f ha (by omega) hg
    obtain ⟨f, rfl⟩ : ∃ f', f = f' + 1 := ⟨f - 1, by omega⟩
    have hr := Nat.mod_lt a (Nat.pos_of_ne_zero e)
    rw [gcd_st a b] at *
    rw [st1 a b f ha hb2 e]
    by_cases e2 : a % b = 0
    · rw [e2] at hg ⊢; exact st0 b f hb2 (by omega) hg
    obtain ⟨f, rfl⟩ : ∃ f', f = f' + 1 := ⟨f - 1, by omega⟩
    have hh := half (Nat.pos_of_ne_zero e2) hr
    rw [gcd_st b (a % b)] at *
    rw [st1 b (a % b) f hb2 (by omega) e2]
    exact ih _ _ _ (by omega) (by rw [Nat.pow_succ] at hb; omega) (by omega) (by omega) hg hg2
theorem noTak_ev (p c w e : Int32) : (CT_isNoTaking p c w e = some 1 ∧ M_areNames p c w e = some 0) ∨ (CT_isNoTaking p c w e = some 0 ∧ M_areNames p c w e = some 1 ∧ ∃ p' c' w' e' : Nat, p = nI p' ∧ c = nI c' ∧ w = nI w' ∧ e = nI e' ∧ p' < 101 ∧ c' < 9 ∧ w' < 10 ∧ e' < 10) := by
  unfold CT_isNoTaking M_areNames CT_isNoTaking_40 CT_isNoTaking_45 M_areNames_44 M_areNames_45
  simp only [within_ev, bnd0_s, wi, nb0, nb1, if_true]
  by_cases a1 : p < 0
  · left; simp [a1]
  by_cases a2 : 100 < p
  · left; simp [a1, a2]
  by_cases b1 : c < 0
  · left; simp [a1, a2, b1]
  by_cases b2 : 8 < c
  · left; simp [a1, a2, b1, b2]
  by_cases c1 : w < 0
  · left; simp [a1, a2, b1, b2, c1]
  by_cases c2 : 9 < w
  · left; simp [a1, a2, b1, b2, c1, c2]
  by_cases d1 : e < 0
  · left; simp [a1, a2, b1, b2, c1, c2, d1]
  by_cases d2 : ¬ e ≤ 9
  · have : 9 < e := by rw [i_lt]; rw [i_le] at d2; omega
    left; simp [a1, a2, b1, b2, c1, c2, d1, d2, this]
  have d2 := Classical.not_not.mp d2
  have d3 : ¬ 9 < e := by rw [i_lt]; rw [i_le] at d2; omega
  right
  refine ⟨by simp [a1, a2, b1, b2, c1, c2, d1, d2], by simp [a1, a2, b1, b2, c1, c2, d1, d3], ?_⟩
  rw [i_lt, t0] at a1 b1 c1 d1
  rw [i_lt, t100] at a2
  rw [i_lt, t8] at b2
  rw [i_lt, t9] at c2 d3
  exact ⟨p.toInt.toNat, c.toInt.toNat, w.toInt.toNat, e.toInt.toNat, i_nat (by omega), i_nat (by omega), i_nat (by omega), i_nat (by omega), by omega, by omega, by omega, by omega⟩
theorem take_ev (G : GG) (s m : SS) (p c w e : Int32) : ∃ r, CT_take G s p c w e = some (r, s) ∧ M_take m p c w e = some (r, m) := by
  unfold CT_take M_take
  rcases noTak_ev p c w e with ⟨h1, h2⟩ | ⟨h1, h2, p', c', w', e', rfl, rfl, rfl, rfl, hp, hc, hw, he⟩
  · exact ⟨-2, by simp [h1, bnd0_s], by simp [h2, bnd0_s]⟩
  rw [h1, h2, bnd0_s, bnd0_s, if_pos rfl, if_neg (by decide)]
  have main : ∀ (f i : Nat) (x5 : Int32) (x6 : Int64), i ≤ 8 → 8 - i < f → ∃ r, CT_take_23 G f (nI p') (nI c') (nI w') (nI e') x5 x6 (nI (i + 1)) s = some (r, s) ∧ M_take_23 f (nI p') (nI c') (nI w') (nI e') x5 x6 (nI (i + 1)) m = some (r, m) := by
    intro f
    induction f with
    | zero => intro i x5 x6 h1 h2; omega
    | succ f ih =>
      intro i x5 x6 hi hf
      rw [CT_take_23, M_take_23]
      by_cases q : i = 8
      · subst q
        rw [if_pos (by decide), if_pos (by decide)]
        exact ⟨x5, rfl, rfl⟩
      · have nl : ¬ (8 : Int32) < nI (i + 1) := by rw [show (8 : Int32) = nI 8 from by decide, nI_lt_iff (by omega) (by omega)]; omega
        have e8 : (8 : Int32) - nI (i + 1) = nI (8 - (i + 1)) := by rw [show (8 : Int32) = nI 8 from by decide, nI_subN (by omega) (by omega)]
        rw [if_neg nl, if_neg nl, awC (by omega) hp hc hw he, awM (by omega) hp hc hw he, bnd0_s, bnd0_s, e8, hun_ev (by omega), h64, pow_ev _ (by omega), bnd0_s, bnd0_s]
        unfold CT_take_70 M_take_67
        rw [nI_s]
        by_cases z : lg_cmp (Int64.ofInt (awI (i + 1) p' c' w' e') * Int64.ofInt (100 ^ (8 - (i + 1)))) x6 ≤ 0
        · rw [if_pos z, if_pos z]; exact ih (i + 1) _ _ (by omega) (by omega)
        · rw [if_neg z, if_neg z]; exact ih (i + 1) _ _ (by omega) (by omega)
  exact main fuel 0 0 0 (by omega) (by have := fuel_big; omega)
theorem names_ev (G : GG) (s m : SS) (n p c w e q : Int32) : ∃ r, CT_names G s n p c w e q = some (r, s) ∧ M_names m n p c w e q = some (r, m) := by
  unfold CT_names M_names CT_names_33 M_names_32 CT_names_99
  simp only [within_ev, bnd0_s, wi]
  by_cases a1 : n < 0
  · exact ⟨_, by rw [if_pos a1], by rw [if_pos (Or.inl a1)]⟩
  by_cases a2 : 8 < n
  · exact ⟨_, by rw [if_neg a1, if_pos a2], by rw [if_pos (Or.inr a2)]⟩
  have na : ¬ (n < 0 ∨ 8 < n) := fun z => z.elim a1 a2
  have n10 : ¬ (1 : Int32) = 0 := by decide
  rw [if_neg a1, if_neg a2, if_neg na]
  by_cases b1 : q < 0
  · refine ⟨_, by rw [if_pos b1], ?_⟩
    rcases noTak_ev p c w e with ⟨-, h2⟩ | ⟨-, h2, -⟩
    · rw [h2, bnd0_s, if_pos rfl]
    · rw [h2, bnd0_s, if_neg n10, if_pos (Or.inl b1)]
  by_cases b2 : 1 < q
  · refine ⟨_, by rw [if_neg b1, if_pos b2], ?_⟩
    rcases noTak_ev p c w e with ⟨-, h2⟩ | ⟨-, h2, -⟩
    · rw [h2, bnd0_s, if_pos rfl]
    · rw [h2, bnd0_s, if_neg n10, if_pos (Or.inr b2)]
  have nq : ¬ (q < 0 ∨ 1 < q) := fun z => z.elim b1 b2
  rw [if_neg b1, if_neg b2]
  rcases noTak_ev p c w e with ⟨h1, h2⟩ | ⟨h1, h2, p', c', w', e', rfl, rfl, rfl, rfl, hp, hc, hw, he⟩
  · exact ⟨_, by rw [h1, bnd0_s, if_neg n10], by rw [h2, bnd0_s, if_pos rfl]⟩
  rw [h1, h2, bnd0_s, bnd0_s, if_pos (show (0 : Int32) = 0 from rfl), if_neg n10, if_neg nq]
  rw [i_lt, t0] at a1
  rw [i_lt, t8] at a2
  have hn : n = nI n.toInt.toNat := i_nat (by omega)
  have hn9 : n.toInt.toNat < 9 := by omega
  rw [hn]
  generalize n.toInt.toNat = N at *
  rw [awC hn9 hp hc hw he, awM hn9 hp hc hw he, bnd0_s, bnd0_s, hun_ev (by omega), h64, pow_ev _ (by omega), bnd0_s, bnd0_s]
  have ab := aw_b hn9 hp hc hw he
  generalize awI N p' c' w' e' = A at *
  have hpow : ∀ n, n < 9 → 0 < 100 ^ n ∧ 100 ^ n ≤ 10000000000000000 := by decide
  obtain ⟨l1, l2⟩ := hpow N hn9
  have eB : Int64.ofInt (100 ^ N) = Int64.ofInt ((100 ^ N : Nat) : Int) := by rw [Int.natCast_pow]; rfl
  rw [eB]
  generalize 100 ^ N = B at *
  have TA : (Int64.ofInt A).toInt = A := Int64.toInt_ofInt_of_le (by omega) (by omega)
  have cC : (if (0 : Int64) < Int64.ofInt A then Int64.ofInt A else -Int64.ofInt A) = Int64.ofInt ((A.natAbs : Nat) : Int) := by
    by_cases z : (0 : Int64) < Int64.ofInt A
    · rw [if_pos z]
      rw [Int64.lt_iff_toInt_lt, TA, Int64.toInt_zero] at z
      congr 1; omega
    · rw [if_neg z, ← Int64.ofInt_neg]
      rw [Int64.lt_iff_toInt_lt, TA, Int64.toInt_zero] at z
      congr 1; omega
  have hg0 : 0 < Nat.gcd A.natAbs B := Nat.gcd_pos_of_pos_right _ l1
  have hgB : Nat.gcd A.natAbs B ≤ B := Nat.gcd_le_right _ l1
  have hB : B < 2 ^ 54 := by
    have : (10000000000000000 : Nat) < 2 ^ 54 := by decide
    omega
  have gC := gcdC 54 A.natAbs B 0 fuel (by omega) hB (by omega) (by omega) (by have := fuel_big; omega)
  have gM := gcdM (Int64.ofInt A) (Int64.ofInt ((B : Nat) : Int)) q 54 A.natAbs B fuel (by omega) hB (by omega) (by have := fuel_big; omega) (by omega) (by omega)
  have cM : M_share (Int64.ofInt A) (Int64.ofInt ((B : Nat) : Int)) q = M_share_17 fuel (Int64.ofInt A) (Int64.ofInt ((B : Nat) : Int)) q (Int64.ofInt ((A.natAbs : Nat) : Int)) (Int64.ofInt ((B : Nat) : Int)) := by
    unfold M_share M_share_12
    by_cases z : A < 0
    · have : ¬ (0 : Int32) ≤ lg_cmp (Int64.ofInt A) 0 := by
        unfold lg_cmp
        rw [if_neg (show ¬ Int64.ofInt A > 0 by show ¬ (0 : Int64) < Int64.ofInt A; rw [Int64.lt_iff_toInt_lt, TA, Int64.toInt_zero]; omega), if_neg (show ¬ Int64.ofInt A = 0 by rw [← Int64.toInt_inj, TA, Int64.toInt_zero]; omega)]
        decide
      rw [if_neg this, ← Int64.ofInt_neg]
      congr 2; omega
    · have : (0 : Int32) ≤ lg_cmp (Int64.ofInt A) 0 := by
        unfold lg_cmp
        repeat' split
        · decide
        · decide
        · rename_i z1 z2
          exfalso
          have z1' : ¬ (0 : Int64) < Int64.ofInt A := z1
          rw [Int64.lt_iff_toInt_lt, TA, Int64.toInt_zero] at z1'
          rw [← Int64.toInt_inj, TA, Int64.toInt_zero] at z2
          omega
      rw [if_pos this]
      congr 2; omega
  rw [cC, cM, gM, bnd0_s]
  have gC' : CT_commonDivisor (Int64.ofInt ((A.natAbs : Nat) : Int)) (Int64.ofInt ((B : Nat) : Int)) = some (Int64.ofInt ((Nat.gcd A.natAbs B : Nat) : Int)) := gC
  rw [gC', bnd0_s]
  have Tg : (Int64.ofInt ((Nat.gcd A.natAbs B : Nat) : Int)).toInt = Nat.gcd A.natAbs B := I_T (by omega)
  have g1 : (0 : Int32) ≤ lg_cmp (Int64.ofInt ((Nat.gcd A.natAbs B : Nat) : Int)) 1 := by
    unfold lg_cmp
    repeat' split
    · decide
    · decide
    · rename_i z1 z2
      exfalso
      have z1' : ¬ (1 : Int64) < Int64.ofInt ((Nat.gcd A.natAbs B : Nat) : Int) := z1
      rw [Int64.lt_iff_toInt_lt, Tg, show (1 : Int64).toInt = 1 from by decide] at z1'
      rw [← Int64.toInt_inj, Tg, show (1 : Int64).toInt = 1 from by decide] at z2
      omega
  have g2 : ¬ Int64.ofInt ((Nat.gcd A.natAbs B : Nat) : Int) = 0 := fun z => by
    have := (I_0 (by omega)).mp z
    omega
  rw [if_pos g1, if_pos g2, if_pos g2]
  by_cases z : q = 0
  · exact ⟨_, by rw [if_pos z], by rw [if_pos z]⟩
  · exact ⟨_, by rw [if_neg z], by rw [if_neg z]⟩
