/-! Integer.bitCount of a set of at most 24 -/
theorem and_pair (k a c y m : Nat) (ha : a < 2 ^ k) (hc : c < 2 ^ k) : (2 ^ k * y + a) &&& (2 ^ k * m + c) = 2 ^ k * (y &&& m) + (a &&& c) := by
  apply Nat.eq_of_testBit_eq
  intro i
  have hac : a &&& c < 2 ^ k := Nat.lt_of_le_of_lt Nat.and_le_left ha
  rw [Nat.testBit_and, Nat.testBit_two_pow_mul_add _ ha, Nat.testBit_two_pow_mul_add _ hc, Nat.testBit_two_pow_mul_add _ hac]
  by_cases h : i < k
  · rw [if_pos h, if_pos h, if_pos h, Nat.testBit_and]
  · rw [if_neg h, if_neg h, if_neg h, Nat.testBit_and]
theorem and3 (a b c m : Nat) (ha : a < 256) (hb : b < 256) (hc : c < 256) (hm : m < 256) : (a + 256 * b + 65536 * c) &&& (m + 256 * m + 65536 * m + 16777216 * m) = (a &&& m) + 256 * (b &&& m) + 65536 * (c &&& m) := by
  have e1 : a + 256 * b + 65536 * c = 2 ^ 8 * (2 ^ 8 * (2 ^ 8 * 0 + c) + b) + a := by omega
  have e2 : m + 256 * m + 65536 * m + 16777216 * m = 2 ^ 8 * (2 ^ 8 * (2 ^ 8 * m + m) + m) + m := by omega
  rw [e1, e2, and_pair 8 a m _ _ (by omega) (by omega), and_pair 8 b m _ _ (by omega) (by omega), and_pair 8 c m _ _ (by omega) (by omega), Nat.zero_and]
  omega
def q1 (a : Nat) : Nat := a - ((a / 2) &&& 85)
def q2 (a : Nat) : Nat := (a &&& 51) + ((a / 4) &&& 51)
def q3 (a : Nat) : Nat := (a + a / 16) &&& 15
set_option maxRecDepth 100000 in
theorem byte1 : ∀ a, a < 256 → ∀ e, e < 2 → (a / 2 + 128 * e) &&& 85 = (a / 2) &&& 85 ∧ (a / 2) &&& 85 ≤ a ∧ q1 a < 256 := by decide +kernel
set_option maxRecDepth 100000 in
theorem byte2 : ∀ a, a < 256 → ∀ e, e < 4 → (a / 4 + 64 * e) &&& 51 = (a / 4) &&& 51 ∧ q2 a < 256 := by decide +kernel
set_option maxRecDepth 100000 in
theorem byte3 : ∀ a, a < 256 → q3 (q2 (q1 a)) = cnt (fun i => a.testBit i) 8 ∧ q2 (q1 a) ≤ 68 := by decide +kernel
