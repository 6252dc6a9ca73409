/-! Integer.bitCount of a set of at most 24 -/
theorem and_pair (k a c y m : Nat) (ha : a < 2 ^ k) (hc : c < 2 ^ k) : (2 ^ k * y + a) &&& (2 ^ k * m + c) = 2 ^ k * (y &&& m) + (a &&& c) := by
  apply Nat.eq_of_testBit_eq
  intro i
  have hac : a &&& c < 2 ^ k := Nat.lt_of_le_of_lt Nat.and_le_left ha
  rw [Nat.testBit_and, Nat.testBit_two_pow_mul_add _ ha, Nat.testBit_two_pow_mul_add _ hc, Nat.testBit_two_pow_mul_add _ hac]
  by_cases h : i < k
  · rw [if_pos h, if_pos h, if_pos h, Nat.testBit_and]
  · rw [if_neg h, if_neg h, if_neg h, Nat.testBit_and]
theorem and3 (a b c m : Nat) (ha : a < 256) (hb : b < 256) (hc : c < 256) (hm : m < 256) : (a + 256 * b + 65536 * c) &&& (m + 256 * m + 65536 * m + 16777216 * m) = (a &&& m) + 256 * (b &&& m) + 65536 * (c &&& m) := by
  have e1 : a + 256 * b + 65536 * c = 2 ^ 8 * (2 ^ 8 * (2 ^ 8 * 0 + c) + b) + a := by omega
  have e2 : m + 256 * m + 65536 * m + 16777216 * m = 2 ^ 8 * (2 ^ 8 * (2 ^ 8 * m + m) + m) + m := by omega
  rw [e1, e2, and_pair 8 a m _ _ (by omega) (by omega), and_pair 8 b m _ _ (by omega) (by omega), and_pair 8 c m _ _ (by omega) (by omega), Nat.zero_and]
  omega
def q1 (a : Nat) : Nat := a - ((a / 2) &&& 85)
def q2 (a : Nat) : Nat := (a &&& 51) + ((a / 4) &&& 51)
def q3 (a : Nat) : Nat := (a + a / 16) &&& 15
set_option maxRecDepth 100000 in
theorem byte1 : ∀ a, a < 256 → ∀ e, e < 2 → (a / 2 + 128 * e) &&& 85 = (a / 2) &&& 85 ∧ (a / 2) &&& 85 ≤ a ∧ q1 a < 256 := by decide +kernel
set_option maxRecDepth 100000 in
theorem byte2 : ∀ a, a < 256 → ∀ e, e < 4 → (a / 4 + 64 * e) &&& 51 = (a / 4) &&& 51 ∧ q2 a < 256 := by decide +kernel
set_option maxRecDepth 100000 in
theorem byte3 : ∀ a, a < 256 → q3 (q2 (q1 a)) = cnt (fun i => a.testBit i) 8 ∧ q2 (q1 a) ≤ 68 := by decide +kernel
def pu (x : Int32) (k : Int32) : Int32 := (x.toUInt32 >>> (k.toUInt32 &&& Int32.toUInt32 31)).toInt32
def pc1 (x : Int32) : Int32 := x - (pu x 1 &&& (1431655765 : Int32))
def pc2 (x : Int32) : Int32 := (x &&& (858993459 : Int32)) + (pu x 2 &&& (858993459 : Int32))
def pc3 (x : Int32) : Int32 := (x + pu x 4) &&& (252645135 : Int32)
def pc4 (x : Int32) : Int32 := x + pu x 8
def pc5 (x : Int32) : Int32 := (x + pu x 16) &&& (63 : Int32)
def b3 (a b c : Nat) : Nat := a + 256 * b + 65536 * c
theorem pu_nI {n : Nat} (hn : n < 2 ^ 32) (s : Int32) (k : Nat) (hs : ((s.toUInt32 &&& Int32.toUInt32 31).toBitVec % 32).toNat = k) : pu (nI n) s = nI (n / 2 ^ k) := pk_ushrN hn s k hs
theorem b3_lt {a b c : Nat} (ha : a < 256) (hb : b < 256) (hc : c < 256) : b3 a b c < 2 ^ 24 := by unfold b3; omega
theorem pc1_b3 {a b c : Nat} (ha : a < 256) (hb : b < 256) (hc : c < 256) : pc1 (nI (b3 a b c)) = nI (b3 (q1 a) (q1 b) (q1 c)) := by
  have hl := b3_lt ha hb hc
  unfold pc1
  rw [pu_nI (by omega) 1 1 (by decide)]
  have e : (1431655765 : Int32) = nI (85 + 256 * 85 + 65536 * 85 + 16777216 * 85) := by decide
  have e2 : b3 a b c / 2 ^ 1 = (a / 2 + 128 * (b % 2)) + 256 * (b / 2 + 128 * (c % 2)) + 65536 * (c / 2 + 128 * 0) := by unfold b3; omega
  rw [e, fa_and, e2, and3 _ _ _ 85 (by omega) (by omega) (by omega) (by omega)]
  have ka := byte1 a ha (b % 2) (by omega)
  have kb := byte1 b hb (c % 2) (by omega)
  have kc := byte1 c hc 0 (by omega)
  rw [ka.1, kb.1, kc.1]
  have ja := ka.2.1
  have jb := kb.2.1
  have jc := kc.2.1
  rw [pk_sub (by unfold b3; omega)]
  congr 1
  unfold b3 q1
  generalize a / 2 &&& 85 = x at *
  generalize b / 2 &&& 85 = y at *
  generalize c / 2 &&& 85 = z at *
  omega
theorem pc2_b3 {a b c : Nat} (ha : a < 256) (hb : b < 256) (hc : c < 256) : pc2 (nI (b3 a b c)) = nI (b3 (q2 a) (q2 b) (q2 c)) := by
  have hl := b3_lt ha hb hc
  unfold pc2
  rw [pu_nI (by omega) 2 2 (by decide)]
  have e : (858993459 : Int32) = nI (51 + 256 * 51 + 65536 * 51 + 16777216 * 51) := by decide
  have e2 : b3 a b c / 2 ^ 2 = (a / 4 + 64 * (b % 4)) + 256 * (b / 4 + 64 * (c % 4)) + 65536 * (c / 4 + 64 * 0) := by unfold b3; omega
  rw [e, fa_and, fa_and, e2, and3 _ _ _ 51 (by omega) (by omega) (by omega) (by omega)]
  have e3 : b3 a b c = a + 256 * b + 65536 * c := rfl
  rw [e3, and3 _ _ _ 51 ha hb hc (by omega)]
  have ka := byte2 a ha (b % 4) (by omega)
  have kb := byte2 b hb (c % 4) (by omega)
  have kc := byte2 c hc 0 (by omega)
  rw [ka.1, kb.1, kc.1, nI_add]
  congr 1
  unfold b3 q2
  omega
theorem byte4 : ∀ a, a < 69 → ∀ e, e < 5 → (a + (a / 16 + 16 * e)) &&& 15 = q3 a ∧ q3 a < 16 := by decide +kernel
theorem pc3_b3 {a b c : Nat} (ha : a ≤ 68) (hb : b ≤ 68) (hc : c ≤ 68) (ma : a % 16 ≤ 4) (mb : b % 16 ≤ 4) (mc : c % 16 ≤ 4) : pc3 (nI (b3 a b c)) = nI (b3 (q3 a) (q3 b) (q3 c)) := by
  have hl := b3_lt (show a < 256 by omega) (show b < 256 by omega) (show c < 256 by omega)
  unfold pc3
  rw [pu_nI (by omega) 4 4 (by decide), nI_add]
  have e : (252645135 : Int32) = nI (15 + 256 * 15 + 65536 * 15 + 16777216 * 15) := by decide
  have e2 : b3 a b c + b3 a b c / 2 ^ 4 = (a + (a / 16 + 16 * (b % 16))) + 256 * (b + (b / 16 + 16 * (c % 16))) + 65536 * (c + (c / 16 + 16 * 0)) := by unfold b3; omega
  rw [e, fa_and, e2, and3 _ _ _ 15 (by omega) (by omega) (by omega) (by omega)]
  rw [(byte4 a (by omega) (b % 16) (by omega)).1, (byte4 b (by omega) (c % 16) (by omega)).1, (byte4 c (by omega) 0 (by omega)).1]
  rfl
theorem byte5 : ∀ a, a < 256 → q2 (q1 a) % 16 ≤ 4 ∧ q1 a < 256 := by decide +kernel
theorem pc45_b3 {a b c : Nat} (ha : a ≤ 8) (hb : b ≤ 8) (hc : c ≤ 8) : pc5 (pc4 (nI (b3 a b c))) = nI (a + b + c) := by
  have hl := b3_lt (show a < 256 by omega) (show b < 256 by omega) (show c < 256 by omega)
  unfold pc5 pc4
  rw [pu_nI (by omega) 8 8 (by decide), nI_add, pu_nI (by omega) 16 16 (by decide), nI_add]
  have e : (63 : Int32) = nI (2 ^ 6 - 1) := by decide
  have e2 : b3 a b c + b3 a b c / 2 ^ 8 + (b3 a b c + b3 a b c / 2 ^ 8) / 2 ^ 16 = 2 ^ 6 * (4 * (b + c) + 1024 * c) + (a + b + c) := by unfold b3; omega
  rw [e, fa_and, Nat.and_two_pow_sub_one_eq_mod, e2, Nat.mul_add_mod]
  congr 1
  omega
theorem cnt_split (f : Nat → Bool) (a b : Nat) : cnt f (a + b) = cnt f a + cnt (fun i => f (a + i)) b := by
  induction b with
  | zero => rfl
  | succ b ih =>
    show cnt f (a + b) + _ = _ + (cnt (fun i => f (a + i)) b + _)
    rw [ih, Nat.add_assoc]
    rfl
theorem cnt8_le (a : Nat) : cnt (fun i => a.testBit i) 8 ≤ 8 := cnt_le _ 8
theorem pop_nI {n : Nat} (hn : n < 2 ^ 24) : pc5 (pc4 (pc3 (pc2 (pc1 (nI n))))) = nI (cnt (fun i => n.testBit i) 24) := by
  have ha : n % 256 < 256 := by omega
  have hb : n / 256 % 256 < 256 := by omega
  have hc : n / 65536 < 256 := by omega
  have en : n = b3 (n % 256) (n / 256 % 256) (n / 65536) := by unfold b3; omega
  have ka := byte3 _ ha
  have kb := byte3 _ hb
  have kc := byte3 _ hc
  have la := byte5 _ ha
  have lb := byte5 _ hb
  have lc := byte5 _ hc
  have e1 : cnt (fun i => n.testBit i) 24 = cnt (fun i => (n % 256).testBit i) 8 + cnt (fun i => (n / 256 % 256).testBit i) 8 + cnt (fun i => (n / 65536).testBit i) 8 := by
    rw [show 24 = 8 + 8 + 8 from rfl, cnt_split, cnt_split]
    congr 1
    congr 1
    · apply cnt_congr
      intro j hj
      have : n % 256 = n % 2 ^ 8 := rfl
      show n.testBit j = (n % 256).testBit j
      rw [this, Nat.testBit_mod_two_pow, decide_eq_true hj, Bool.true_and]
    · apply cnt_congr
      intro j hj
      have e : n / 256 % 256 = n / 2 ^ 8 % 2 ^ 8 := rfl
      show n.testBit (8 + j) = (n / 256 % 256).testBit j
      rw [e, Nat.testBit_mod_two_pow, decide_eq_true hj, Bool.true_and, Nat.testBit_div_two_pow, Nat.add_comm]
    · apply cnt_congr
      intro j hj
      have e : n / 65536 = n / 2 ^ 16 := rfl
      show n.testBit (8 + 8 + j) = (n / 65536).testBit j
      rw [e, Nat.testBit_div_two_pow, Nat.add_comm]
  have h2 : ∀ a, a < 256 → q1 a < 256 := fun a h => (byte5 a h).2
  have c1 := cnt8_le (n % 256)
  have c2 := cnt8_le (n / 256 % 256)
  have c3 := cnt8_le (n / 65536)
  rw [e1, ← ka.1, ← kb.1, ← kc.1]
  rw [← ka.1] at c1
  rw [← kb.1] at c2
  rw [← kc.1] at c3
  generalize n % 256 = a at *
  generalize n / 256 % 256 = b at *
  generalize n / 65536 = c at *
  subst en
  rw [pc1_b3 ha hb hc, pc2_b3 (h2 _ ha) (h2 _ hb) (h2 _ hc), pc3_b3 ka.2 kb.2 kc.2 la.1 lb.1 lc.1, pc45_b3 c1 c2 c3]
theorem e266 (X : XS) (h : H2) (Q : Option Value → H2 → Prop) (x : Int32) (hx : ∀ i, 24 ≤ i → i < 32 → bt x i = false) : EC X 266 [.int x] h Q ↔ Q (some (.int (nI (cnt (bt x) 24)))) h := by
  obtain ⟨m, hm, rfl, -, hb⟩ := nI_small hx
  have e : EC X 266 [.int (nI m)] h Q ↔ Q (some (.int (pc5 (pc4 (pc3 (pc2 (pc1 (nI m)))))))) h := g266 X h Q (nI m)
  rw [e, pop_nI hm]
  have : cnt (fun i => m.testBit i) 24 = cnt (bt (nI m)) 24 := cnt_congr (fun j _ => hb j)
  rw [this]
