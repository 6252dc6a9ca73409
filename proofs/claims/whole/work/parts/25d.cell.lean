theorem c_cell (X : XS) (h : H2) (iv : InvH h) (p0 p1 p2 : Int32) : EC X 154 [.ref 5, .int p0, .int p1, .int p2] h (fun v1 h1 => EC X 257 [.ref 86, .int p0, .int p1, .int p2] h1 (fun v2 h2 => v1 = v2 ∧ InvH h2 ∧ Wr [0, 1] h h2)) := by
  rw [g154]
  by_cases hp : 0 ≤ p0 ∧ p0 ≤ 3
  · by_cases hq : 0 ≤ p2 ∧ p2 ≤ 2
    · obtain ⟨k, hk, rfl⟩ := sh4 hp
      have hkk : (nI k).toNatClampNeg = k := nI_clamp (by omega)
      obtain ⟨hl, ⟨L, hL, e13, e88⟩, hr⟩ := iv.2 k hk
      simp only [cI, e84_C X h _ k L hk hL e13 p2 1 p1 1 hq (by decide), rI_i]
      have g87' : ∀ x y, hg (sI (sI h 6 4 x) 86 0 y) 87 k = hg h 87 k := fun x y => by rw [hg_ne _ (by decide), hg_ne _ (by decide)]
      have g88' : ∀ x y, hg (sI (sI h 6 4 x) 86 0 y) 88 k = nI L := fun x y => by rw [hg_ne _ (by decide), hg_ne _ (by decide), e88]
      have n11 : ¬ ((-10 : Int32) - 1 = 0) := by decide
      have n12 : ¬ ((-10 : Int32) - 2 = 0) := by decide
      have n13 : ¬ ((-10 : Int32) - 3 = 0) := by decide
      by_cases h1 : hg h 12 k = -1
      · have h9 := (lane_no hl).mp h1
        have w : tkW h k p2 p1 1 = 1 := by unfold tkW; rw [if_pos h1]
        simp only [w, show ¬ (1 : Int32) = 0 by decide, if_false, n11, not_false_iff, if_true]
        simp only [g257, g257_50, cI, cJ, e170, e171, e168, rI_i, rJ_i, b2i_0, hp, hq, and_self, not_true, not_false_iff, if_true, if_false, hkk, bI k 4 hk (by omega), g87', h9, g167, sI_sI]
        exact ⟨trivial, InvH_f iv 1, Wr_f (Wr_refl _ _) 1 (by decide)⟩
      · have h9 : ¬ hg h 87 k = -9 := fun z => h1 ((lane_no hl).mpr z)
        have le := lane_eq hl h1
        by_cases h2 : hg h 12 k = p2
        · have le2 : hg h 87 k = p2 := by rw [le, h2]
          have h9' : ¬ p2 = -9 := by rw [← le2]; exact h9
          by_cases hi : 0 ≤ p1 ∧ p1 < nI L
          · have hi2 := ((inR_c (show L < 2 ^ 31 by omega)).mpr hi).2
        obtain ⟨j, hj, rfl⟩ := (inR_lt (show L < 2 ^ 31 by omega)).mp hi
            have hjj : (nI j).toNatClampNeg = j := nI_clamp (by omega)
            obtain ⟨a1, a2, a3⟩ := c60 (j := j) hk (by omega)
            have w : tkW h k p2 (nI j) 1 = 0 := by
              unfold tkW
              rw [if_neg h1, if_pos h2, if_pos (by decide), if_pos ⟨hi.1, by rw [e13]; exact nI_le (by omega) (by omega)⟩, e13, if_neg]
              obtain ⟨M, rfl⟩ : ∃ M, L = M + 1 := ⟨L - 1, by omega⟩
              rw [nI_pred]
              exact nI_nlt (by omega) (by omega)
            have c1 : (1 : Int32).toNatClampNeg = 1 := by decide
            have r : ∀ y b i, b ≠ 6 → b ≠ 86 → b ≠ 14 → hg (sI (sC (sI h 6 4 0) 14 (8 + k) j 0 1) 86 0 y) b i = hg h b i := by
              intro y b i h6 h86 h14
              rw [hg_ne _ h86, hg_sCn _ h14, hg_ne _ h6]
            simp only [w, if_true, not_true, if_false, hjj, c1]
            simp only [g257, g257_50, cI, cJ, e170, e171, e168, rI_i, rJ_i, b2i_0, hp, hq, and_self, not_true, not_false_iff, if_true, if_false, hkk, bI k 4 hk (by omega), r _ 87 k (by decide) (by decide) (by decide), r _ 88 k (by decide) (by decide) (by decide), e88, inR_c (show L < 2 ^ 31 by omega), h9, h9', le2, hi, hi2, a1, a2, a3, r _ 89 (60 * k + j) (by decide) (by decide) (by decide)]
            refine ⟨?_, ?_, ?_⟩
            · rw [hg_sC, if_pos ⟨rfl, by omega, by omega⟩, hg_ne _ (by omega), ← hr j (by omega)]
              rfl
            · apply InvH_w iv
              · rw [hg_ne _ (by decide), hg_sCn _ (by decide), hg_eq, hg_eq]
              · intro a i ha
                exact r _ a i (by omega) (by omega) (by omega)
            · exact Wr_sI (Wr_sC (Wr_sI (Wr_refl _ _) (show (1 : Nat) ∈ _ by decide)) (fun j => show (0 : Nat) ∈ _ by decide)) (show (1 : Nat) ∈ _ by decide)
          · have w : tkW h k p2 p1 1 = 3 := by
              unfold tkW
              rw [if_neg h1, if_pos h2, if_pos (by decide)]
              by_cases h4 : 0 ≤ p1 ∧ p1 ≤ hg h 13 k
              · rw [if_pos h4, if_pos]
                rw [e13] at h4 ⊢
                obtain ⟨j, hj, rfl⟩ := nI_of (i_nlt.mpr h4.1)
                have b1 := (nI_leI hj (by omega)).mp h4.2
                have b2 : ¬ j < L := fun z => hi ⟨h4.1, nI_lt z (by omega)⟩
                have : j = L := by omega
                subst this
                cases j with
                | zero => decide
                | succ j => rw [nI_pred]; exact nI_lt (by omega) (by omega)
              · rw [if_neg h4]
            simp only [w, show ¬ (3 : Int32) = 0 by decide, if_false, n13, not_false_iff, if_true]
            simp only [g257, g257_50, cI, cJ, e170, e171, e168, rI_i, rJ_i, b2i_0, hp, hq, and_self, not_true, not_false_iff, if_true, if_false, hkk, bI k 4 hk (by omega), g87', g88', le2, h9, h9', inR_c (show L < 2 ^ 31 by omega), hi, g167, sI_sI]
            exact ⟨trivial, InvH_f iv 3, Wr_f (Wr_refl _ _) 3 (by decide)⟩
        · have le2 : ¬ hg h 87 k = p2 := by rw [le]; exact h2
          have w : tkW h k p2 p1 1 = 2 := by unfold tkW; rw [if_neg h1, if_neg h2]
          simp only [w, show ¬ (2 : Int32) = 0 by decide, if_false, n12, not_false_iff, if_true]
          simp only [g257, g257_50, cI, cJ, e170, e171, e168, rI_i, rJ_i, b2i_0, hp, hq, and_self, not_true, not_false_iff, if_true, if_false, hkk, bI k 4 hk (by omega), g87', h9, le2, g167, sI_sI]
          exact ⟨trivial, InvH_f iv 2, Wr_f (Wr_refl _ _) 2 (by decide)⟩
    · simp only [cI, e84_B X h _ p0 p2 1 p1 1 hp (fun z => hq z.1), rI_i, show ¬ (-2 : Int32) = 0 by decide, not_false_iff, if_true]
      simp only [g257, cI, e170, e171, rI_i, b2i_0, hp, hq, and_self, not_true, not_false_iff, if_true, if_false]
      exact ⟨trivial, InvH_f iv 0, Wr_f (Wr_refl _ _) 0 (by decide)⟩
  · simp only [cI, e84_A X h _ p0 p2 1 p1 1 hp, rI_i, show ¬ (-1 : Int32) = 0 by decide, not_false_iff, if_true]
    simp only [g257, cI, e170, rI_i, b2i_0, hp, not_true, not_false_iff, if_true, if_false]
    exact ⟨trivial, InvH_f iv 0, Wr_f (Wr_refl _ _) 0 (by decide)⟩
