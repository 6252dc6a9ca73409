theorem cell_w1 (h : H2) (k : Nat) (p1 p2 : Int32) (h1 : hg h 12 k = -1) : tkW h k p2 p1 1 = 1 := by unfold tkW; rw [if_pos h1]
theorem le01 : (0 : Int32) ≤ 1 := by decide
theorem cell_w0 (h : H2) (k j L : Nat) (hL : L ≤ 60) (p2 : Int32) (h1 : ¬ hg h 12 k = -1) (h2 : hg h 12 k = p2) (e13 : hg h 13 k = nI L) (hj : j < L) : tkW h k p2 (nI j) 1 = 0 := by
  unfold tkW
  rw [if_neg h1, if_pos h2, if_pos le01, if_pos ⟨nI_pos' (by omega), by rw [e13]; exact nI_le (by omega) (by omega)⟩, e13, if_neg]
  obtain ⟨M, rfl⟩ : ∃ M, L = M + 1 := ⟨L - 1, by omega⟩
  rw [nI_pred]
  exact nI_nlt (by omega) (by omega)
theorem cell_w3 (h : H2) (k L : Nat) (hL : L ≤ 60) (p1 p2 : Int32) (h1 : ¬ hg h 12 k = -1) (h2 : hg h 12 k = p2) (e13 : hg h 13 k = nI L) (hi : ¬ (0 ≤ p1 ∧ p1 < nI L)) : tkW h k p2 p1 1 = 3 := by
  unfold tkW
  rw [if_neg h1, if_pos h2, if_pos le01]
  by_cases h4 : 0 ≤ p1 ∧ p1 ≤ hg h 13 k
  · rw [if_pos h4, if_pos]
    rw [e13] at h4 ⊢
    obtain ⟨j, hj, rfl⟩ := nI_of (i_nlt.mpr h4.1)
    have b1 := (nI_leI hj (by omega)).mp h4.2
    have b2 : ¬ j < L := fun z => hi ⟨h4.1, nI_lt z (by omega)⟩
    have : j = L := by omega
    subst this
    cases j with
    | zero => decide
    | succ j => rw [nI_pred]; exact nI_lt (by omega) (by omega)
  · rw [if_neg h4]
theorem n10_1 : ¬ ((-10 : Int32) - 1 = 0) := by decide
theorem n10_2 : ¬ ((-10 : Int32) - 2 = 0) := by decide
theorem n10_3 : ¬ ((-10 : Int32) - 3 = 0) := by decide
theorem n1_0 : ¬ (1 : Int32) = 0 := by decide
theorem n2_0 : ¬ (2 : Int32) = 0 := by decide
theorem n3_0 : ¬ (3 : Int32) = 0 := by decide
theorem e257_1 (X : XS) (g : H2) (Q : Option Value → H2 → Prop) (k : Nat) (hk : k < 4) (p1 p2 : Int32) (hq : 0 ≤ p2 ∧ p2 ≤ 2) (h9 : hg g 87 k = -9) : EC X 257 [.ref 86, .int (nI k), .int p1, .int p2] g Q ↔ Q (some (.long vLOST)) (sI g 86 0 1) := by
  have hkk : (nI k).toNatClampNeg = k := nI_clamp (by omega)
  have hp : 0 ≤ nI k ∧ nI k ≤ 3 := ⟨nI_pos' (by omega), nI_le (b := 3) (by omega) (by omega)⟩
  have g87 : hg (sI g 86 0 0) 87 k = -9 := by rw [hg_ne _ (by decide), h9]
  rw [g257]
  simp only [cI, cJ, e170, e171, rI_i, rJ_i, b2i_0, hp, hq, and_self, not_true, not_false_iff, if_true, if_false, hkk, bI k 4 hk (by omega), g87]
  rw [g257_50]
  simp only [cJ, rJ_i, hkk, bI k 4 hk (by omega), g87, not_true, if_false, g167, sI_sI]
theorem e257_2 (X : XS) (g : H2) (Q : Option Value → H2 → Prop) (k : Nat) (hk : k < 4) (p1 p2 : Int32) (hq : 0 ≤ p2 ∧ p2 ≤ 2) (h9 : ¬ hg g 87 k = -9) (h8 : ¬ hg g 87 k = p2) : EC X 257 [.ref 86, .int (nI k), .int p1, .int p2] g Q ↔ Q (some (.long vLOST)) (sI g 86 0 2) := by
  have hkk : (nI k).toNatClampNeg = k := nI_clamp (by omega)
  have hp : 0 ≤ nI k ∧ nI k ≤ 3 := ⟨nI_pos' (by omega), nI_le (b := 3) (by omega) (by omega)⟩
  have g87 : hg (sI g 86 0 0) 87 k = hg g 87 k := by rw [hg_ne _ (by decide)]
  rw [g257]
  simp only [cI, cJ, e170, e171, rI_i, rJ_i, b2i_0, hp, hq, and_self, not_true, not_false_iff, if_true, if_false, hkk, bI k 4 hk (by omega), g87, h9, h8, g167, sI_sI]
theorem e257_3 (X : XS) (g : H2) (Q : Option Value → H2 → Prop) (k L : Nat) (hk : k < 4) (hL : L ≤ 60) (p1 p2 : Int32) (hq : 0 ≤ p2 ∧ p2 ≤ 2) (h9 : ¬ hg g 87 k = -9) (h8 : hg g 87 k = p2) (e88 : hg g 88 k = nI L) (hi : ¬ (0 ≤ p1 ∧ p1 < nI L)) : EC X 257 [.ref 86, .int (nI k), .int p1, .int p2] g Q ↔ Q (some (.long vLOST)) (sI g 86 0 3) := by
  have hkk : (nI k).toNatClampNeg = k := nI_clamp (by omega)
  have hp : 0 ≤ nI k ∧ nI k ≤ 3 := ⟨nI_pos' (by omega), nI_le (b := 3) (by omega) (by omega)⟩
  have g87 : hg (sI g 86 0 0) 87 k = hg g 87 k := by rw [hg_ne _ (by decide)]
  have g88 : hg (sI g 86 0 0) 88 k = nI L := by rw [hg_ne _ (by decide), e88]
  have hi2 : ¬ (0 ≤ p1 ∧ p1 ≤ nI L - 1) := fun z => hi ((inR_c (by omega)).mp z)
  rw [g257]
  simp only [cI, cJ, e170, e171, rI_i, rJ_i, b2i_0, hp, hq, and_self, not_true, not_false_iff, if_true, if_false, hkk, bI k 4 hk (by omega), g87, h9]
  rw [if_pos h8, g257_50]
  simp only [cI, cJ, rI_i, rJ_i, hkk, bI k 4 hk (by omega), g87, h9, not_false_iff, if_true, if_false, g88, e168, b2i_0, hi2, not_true, g167, sI_sI]
theorem e257_0 (X : XS) (g : H2) (Q : Option Value → H2 → Prop) (k L j : Nat) (hk : k < 4) (hL : L ≤ 60) (hj : j < L) (p2 : Int32) (hq : 0 ≤ p2 ∧ p2 ≤ 2) (h9 : ¬ hg g 87 k = -9) (h8 : hg g 87 k = p2) (e88 : hg g 88 k = nI L) : EC X 257 [.ref 86, .int (nI k), .int (nI j), .int p2] g Q ↔ Q (some (.long (hg g 89 (60 * k + j)).toInt64)) (sI g 86 0 0) := by
  have hkk : (nI k).toNatClampNeg = k := nI_clamp (by omega)
  have hp : 0 ≤ nI k ∧ nI k ≤ 3 := ⟨nI_pos' (by omega), nI_le (b := 3) (by omega) (by omega)⟩
  have g87 : hg (sI g 86 0 0) 87 k = hg g 87 k := by rw [hg_ne _ (by decide)]
  have g88 : hg (sI g 86 0 0) 88 k = nI L := by rw [hg_ne _ (by decide), e88]
  have hi2 : 0 ≤ nI j ∧ nI j ≤ nI L - 1 := (inR_c (by omega)).mpr ⟨nI_pos' (by omega), nI_lt hj (by omega)⟩
  obtain ⟨a1, a2, a3⟩ := c60 (j := j) hk (by omega)
  have g89 : hg (sI g 86 0 0) 89 (60 * k + j) = hg g 89 (60 * k + j) := by rw [hg_ne _ (by decide)]
  rw [g257]
  simp only [cI, cJ, e170, e171, rI_i, rJ_i, b2i_0, hp, hq, and_self, not_true, not_false_iff, if_true, if_false, hkk, bI k 4 hk (by omega), g87, h9]
  rw [if_pos h8, g257_50]
  simp only [cI, cJ, rI_i, rJ_i, hkk, bI k 4 hk (by omega), g87, h9, not_false_iff, if_true, if_false, g88, e168, b2i_0, hi2, and_self, not_true, a1, a2, a3, g89]
