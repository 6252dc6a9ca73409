theorem max0 (x : Int32) : (if 0 < x then x else 0) = (if 0 ≤ x then x else 0) := by
  by_cases h : 0 < x
  · rw [if_pos h, if_pos (Int32.le_of_lt h)]
  · rw [if_neg h]
    by_cases h0 : 0 ≤ x
    · rw [if_pos h0]
      exact Int32.le_antisymm h0 (i_nlt.mp h)
    · rw [if_neg h0]
theorem min0 (a w : Int32) : (if a < w then a else w) = (if a ≤ w then a else w) := by
  by_cases h : a < w
  · rw [if_pos h, if_pos (Int32.le_of_lt h)]
  · rw [if_neg h]
    by_cases h0 : a ≤ w
    · rw [if_pos h0]
      exact Int32.le_antisymm (i_nlt.mp h) h0
    · rw [if_neg h0]
/-- the price after a week -/
def nxP (n : Nat) (w a : Int32) : Nat := if w ≤ a then (if a < 2 * w then n else if n = 1 then 1 else n - 1) else if n = 99 then 99 else n + 1
theorem nxP_r {n : Nat} {w a : Int32} (h1 : 1 ≤ n) (h2 : n ≤ 99) : 1 ≤ nxP n w a ∧ nxP n w a ≤ 99 := by
  unfold nxP
  by_cases h : w ≤ a
  · rw [if_pos h]
    by_cases hh : a < 2 * w
    · rw [if_pos hh]; omega
    · rw [if_neg hh]
      by_cases e : n = 1
      · rw [if_pos e]; omega
      · rw [if_neg e]; omega
  · rw [if_neg h]
    by_cases e : n = 99
    · rw [if_pos e]; omega
    · rw [if_neg e]; omega
theorem e98 (X : XS) (h : H2) (Q : Option Value → H2 → Prop) (n : Nat) (h1 : 1 ≤ n) (h2 : n ≤ 99) (w a : Int32) : EC X 98 [.int (nI n), .int w, .int a] h Q ↔ Q (some (.int (nI (nxP n w a)))) h := by
  rw [g98]
  unfold nxP
  by_cases hw : w ≤ a
  · rw [if_pos hw, if_pos hw]
    by_cases hh : a < 2 * w
    · rw [if_pos hh, if_pos hh]
    · rw [if_neg hh, if_neg hh]
      obtain ⟨m, rfl⟩ : ∃ m, n = m + 1 := ⟨n - 1, by omega⟩
      rw [nI_pred]
      have e1 : (1 : Int32) = nI 1 := by decide
      rw [e1]
      simp only [nI_ltI (show 1 < 2 ^ 31 by omega) (show m < 2 ^ 31 by omega)]
      by_cases hm : 1 < m
      · rw [if_pos hm, if_neg (by omega)]
        rfl
      · rw [if_neg hm]
        by_cases e : m + 1 = 1
        · rw [if_pos e]
        · rw [if_neg e]
          have : m = 1 := by omega
          subst this
          rfl
  · rw [if_neg hw, if_neg hw, nI_1]
    have e1 : (99 : Int32) = nI 99 := by decide
    rw [e1]
    simp only [nI_ltI (show n + 1 < 2 ^ 31 by omega) (show 99 < 2 ^ 31 by omega)]
    by_cases hm : n + 1 < 99
    · rw [if_pos hm, if_neg (by omega)]
    · rw [if_neg hm]
      by_cases e : n = 99
      · rw [if_pos e]
      · rw [if_neg e]
        have : n = 98 := by omega
        subst this
        rfl
theorem sI_self (h : H2) (a i : Nat) : sI h a i (hg h a i) = h := by
  have : (sI h a i (hg h a i)).2.1 = h.2.1 := by
    funext b j
    have := hg_sI h a i (hg h a i) b j
    by_cases e : b = a ∧ j = i
    · rw [if_pos e] at this
      obtain ⟨rfl, rfl⟩ := e
      exact this
    · rw [if_neg e] at this
      exact this
  exact Prod.ext rfl (Prod.ext this rfl)
theorem sI_self' {h : H2} {a i : Nat} {x : Int32} (e : hg h a i = x) : sI h a i x = h := by rw [← e]; exact sI_self h a i
theorem m252 (X : XS) (h : H2) (Q : Option Value → H2 → Prop) (j n : Nat) (hj : j < 6) (h1 : 1 ≤ n) (h2 : n ≤ 99) (hp : hg h 134 j = nI n) (d a w s : Int32) :
    E X 252 96 [some (.ref 86), some (.int (nI j)), some (.int d), some (.int a), some (.int w), none] [.int s] h Q ↔ Q (some (.int s)) (sI (sI (sI (sI h 134 j (nI (nxP n w a))) 133 j (a - s)) 135 j (hg h 135 j + 1)) 136 j (hg h 136 j + s)) := by
  have hk : (nI j).toNatClampNeg = j := nI_clamp (by omega)
  have hi : ¬ (nI j < 0 ∨ 6 ≤ j) := fun z => z.elim (nI_pos (by omega)) (by omega)
  have e1 : (1 : Int32) = nI 1 := by decide
  have e99 : (99 : Int32) = nI 99 := by decide
  have d1 : hg (sI h 134 j (nI (nxP n w a))) 135 j = hg h 135 j := hg_ne h (by decide)
  have d2 : hg (sI h 134 j (nI (nxP n w a))) 136 j = hg h 136 j := hg_ne h (by decide)
  rw [g252_96]
  simp only [g252_128, g252_162, hk, hi, if_false, hp]
  rw [e99]
  simp only [nI_leI (show 99 < 2 ^ 31 by omega) (show n < 2 ^ 31 by omega)]
  by_cases hw : w ≤ a
  · have hn : ¬ a < w := Int32.not_lt.mpr hw
    simp only [hw, hn, if_true, if_false]
    by_cases hh : a < 2 * w
    · have en : nxP n w a = n := by unfold nxP; rw [if_pos hw, if_pos hh]
      simp only [hh, if_true, en, sI_self' hp]
    · simp only [hh, if_false]
      by_cases e : n = 1
      · have en : nxP n w a = n := by unfold nxP; rw [if_pos hw, if_neg hh, if_pos e, e]
        have l : nI n ≤ 1 := by rw [e]; decide
        simp only [l, if_true, en, sI_self' hp]
      · have l : ¬ nI n ≤ 1 := by rw [e1, nI_leI (by omega) (by omega)]; omega
        obtain ⟨m, rfl⟩ : ∃ m, n = m + 1 := ⟨n - 1, by omega⟩
        have en : nxP (m + 1) w a = m := by unfold nxP; rw [if_pos hw, if_neg hh, if_neg e]; rfl
        simp only [l, if_false, en, nI_pred] at d1 d2 ⊢
        simp only [d1, d2]
  · have hn : a < w := Int32.not_le.mp hw
    simp only [hw, hn, if_true, if_false]
    by_cases e : n = 99
    · have en : nxP n w a = n := by unfold nxP; rw [if_neg hw, if_pos e, e]
      have : 99 ≤ n := by omega
      simp only [this, if_true, en, sI_self' hp, ite_self]
    · have en : nxP n w a = n + 1 := by unfold nxP; rw [if_neg hw, if_neg e]
      have : ¬ 99 ≤ n := by omega
      simp only [this, if_false, en, nI_1] at d1 d2 ⊢
      simp only [d1, d2]
