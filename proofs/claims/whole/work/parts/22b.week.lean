theorem max0 (x : Int32) : (if 0 < x then x else 0) = (if 0 ≤ x then x else 0) := by
  by_cases h : 0 < x
  · rw [if_pos h, if_pos (Int32.le_of_lt h)]
  · rw [if_neg h]
    by_cases h0 : 0 ≤ x
    · rw [if_pos h0]
      exact Int32.le_antisymm h0 (i_nlt.mp h)
    · rw [if_neg h0]
theorem min0 (a w : Int32) : (if a < w then a else w) = (if a ≤ w then a else w) := by
  by_cases h : a < w
  · rw [if_pos h, if_pos (Int32.le_of_lt h)]
  · rw [if_neg h]
    by_cases h0 : a ≤ w
    · rw [if_pos h0]
      exact Int32.le_antisymm (i_nlt.mp h) h0
    · rw [if_neg h0]
/-- the price after a week -/
def nxP (n : Nat) (w a : Int32) : Nat := if w ≤ a then (if a < 2 * w then n else if n = 1 then 1 else n - 1) else if n = 99 then 99 else n + 1
theorem nxP_r {n : Nat} {w a : Int32} (h1 : 1 ≤ n) (h2 : n ≤ 99) : 1 ≤ nxP n w a ∧ nxP n w a ≤ 99 := by
  unfold nxP
  by_cases h : w ≤ a
  · rw [if_pos h]
    by_cases hh : a < 2 * w
    · rw [if_pos hh]; omega
    · rw [if_neg hh]
      by_cases e : n = 1
      · rw [if_pos e]; omega
      · rw [if_neg e]; omega
  · rw [if_neg h]
    by_cases e : n = 99
    · rw [if_pos e]; omega
    · rw [if_neg e]; omega
theorem e98 (X : XS) (h : H2) (Q : Option Value → H2 → Prop) (n : Nat) (h1 : 1 ≤ n) (h2 : n ≤ 99) (w a : Int32) : EC X 98 [.int (nI n), .int w, .int a] h Q ↔ Q (some (.int (nI (nxP n w a)))) h := by
  rw [g98]
  unfold nxP
  by_cases hw : w ≤ a
  · rw [if_pos hw, if_pos hw]
    by_cases hh : a < 2 * w
    · rw [if_pos hh, if_pos hh]
    · rw [if_neg hh, if_neg hh]
      obtain ⟨m, rfl⟩ : ∃ m, n = m + 1 := ⟨n - 1, by omega⟩
      rw [nI_pred]
      have e1 : (1 : Int32) = nI 1 := by decide
      rw [e1]
      simp only [nI_ltI (show 1 < 2 ^ 31 by omega) (show m < 2 ^ 31 by omega)]
      by_cases hm : 1 < m
      · rw [if_pos hm, if_neg (by omega)]
        rfl
      · rw [if_neg hm]
        by_cases e : m + 1 = 1
        · rw [if_pos e]
        · rw [if_neg e]
          have : m = 1 := by omega
          subst this
          rfl
  · rw [if_neg hw, if_neg hw, nI_1]
    have e1 : (99 : Int32) = nI 99 := by decide
    rw [e1]
    simp only [nI_ltI (show n + 1 < 2 ^ 31 by omega) (show 99 < 2 ^ 31 by omega)]
    by_cases hm : n + 1 < 99
    · rw [if_pos hm, if_neg (by omega)]
    · rw [if_neg hm]
      by_cases e : n = 99
      · rw [if_pos e]
      · rw [if_neg e]
        have : n = 98 := by omega
        subst this
        rfl
