def cutL (lane v : Int32) : Int32 := if lane = 0 then v.toInt8.toInt32 else if lane = 1 then v.toInt16.toInt32 else v
theorem e83 (X : XS) (h : H2) (Q : Option Value → H2 → Prop) (p0 p1 : Int32) : EC X 83 [.int p0, .int p1] h Q ↔ Q (some (.int (cutL p0 p1))) h := by
  rw [g83]
  unfold cutL
  by_cases h0 : p0 = 0
  · rw [if_pos h0, if_pos h0]
  · rw [if_neg h0, if_neg h0]
    by_cases h1 : p0 = 1
    · rw [if_pos h1, if_pos h1]
    · rw [if_neg h1, if_neg h1]
theorem lane_no {h : H2} {k : Nat} (hl : (hg h 12 k = -1 ∧ hg h 87 k = -9) ∨ (hg h 12 k = hg h 87 k ∧ 0 ≤ hg h 12 k ∧ hg h 12 k ≤ 2)) : hg h 12 k = -1 ↔ hg h 87 k = -9 := by
  rcases hl with ⟨a, b⟩ | ⟨a, b, c⟩
  · exact ⟨fun _ => b, fun _ => a⟩
  · constructor
    · intro z; rw [z] at b; exact absurd b (by decide)
    · intro z; rw [← a] at z; rw [z] at b; exact absurd b (by decide)
theorem lane_eq {h : H2} {k : Nat} (hl : (hg h 12 k = -1 ∧ hg h 87 k = -9) ∨ (hg h 12 k = hg h 87 k ∧ 0 ≤ hg h 12 k ∧ hg h 12 k ≤ 2)) (hn : ¬ hg h 12 k = -1) : hg h 87 k = hg h 12 k := by
  rcases hl with ⟨a, b⟩ | ⟨a, b, c⟩
  · exact absurd a hn
  · exact a.symm
theorem c_put (X : XS) (h : H2) (iv : InvH h) (p0 p1 p2 : Int32) : EC X 153 [.ref 5, .int p0, .int p1, .int p2] h (fun v1 h1 => EC X 256 [.ref 86, .int p0, .int p1, .int p2] h1 (fun v2 h2 => v1 = v2 ∧ InvH h2 ∧ Wr [0, 1] h h2)) := by
  simp only [g153, g82, cI, e77, rI_i, b2i_0]
  by_cases hp : 0 ≤ p0 ∧ p0 ≤ 3
  · obtain ⟨k, hk, rfl⟩ := sh4 hp
    have hkk : (nI k).toNatClampNeg = k := nI_clamp (by omega)
    obtain ⟨hl, ⟨L, hL, e13, e88⟩, hr⟩ := iv.2 k hk
    have f12 : ∀ x, hg (sI h 6 4 x) 12 k = hg h 12 k := fun x => hg_ne h (by decide)
    have f13 : ∀ x, hg (sI h 6 4 x) 13 k = nI L := fun x => by rw [hg_ne h (by decide), e13]
    simp only [hp, and_self, not_true, not_false_iff, if_false, if_true, hkk, bI k 4 hk (by omega), f12, f13, e161, rI_i, b2i_0, inR_c (show L < 2 ^ 31 by omega)]
    by_cases h1 : hg h 12 k = -1
    · have h9 := (lane_no hl).mp h1
      have g87 : ∀ x y, hg (sI (sI h 6 4 x) 86 0 y) 87 k = -9 := fun x y => by rw [hg_ne _ (by decide), hg_ne _ (by decide), h9]
      simp only [h1, not_true, if_false, g79, g256, cI, e170, e168, rI_i, b2i_0, hp, and_self, not_false_iff, if_true, hkk, bI k 4 hk (by omega), g87, g166, sI_sI]
      exact ⟨trivial, InvH_f iv 1, Wr_f (Wr_refl _ _) 1 (by decide)⟩
    · have h9 : ¬ hg h 87 k = -9 := fun z => h1 ((lane_no hl).mpr z)
      by_cases hi : 0 ≤ p1 ∧ p1 < nI L
      · obtain ⟨j, hj, rfl⟩ := (inR_lt (show L < 2 ^ 31 by omega)).mp hi
        have hjj : (nI j).toNatClampNeg = j := nI_clamp (by omega)
        have oo : ∀ n, (okT X.1 137 n (8 + k) 0 && Nat.ble 5 (8 + k)) = true := fun n => by
          rw [okS X.1 _ hk, show Nat.ble 5 (8 + k) = true from Nat.ble_eq.mpr (by omega)]; rfl
        simp only [h1, hi, and_self, not_true, not_false_iff, if_true, if_false, rc7 hk, oel_s', e83, rI_i, oo, cond_true, shS X.1 hk, hjj, bI j 60 (by omega) (by omega)]
        obtain ⟨a1, a2, a3⟩ := c60 (j := j) hk (by omega)
        have r : ∀ x y b i, b ≠ 6 → b ≠ 86 → ¬ (8 ≤ b ∧ b < 12) → hg (sI (sI (sI h 6 4 0) (8 + k) j x) 86 0 y) b i = hg h b i := by
          intro x y b i h6 h86 h8
          rw [hg_ne _ h86, hg_ne _ (by omega), hg_ne _ h6]
        simp only [g256, cI, e170, e168, rI_i, b2i_0, hp, and_self, not_true, not_false_iff, if_true, if_false, hkk, bI k 4 hk (by omega), r _ _ 87 k (by decide) (by decide) (by omega), r _ _ 88 k (by decide) (by decide) (by omega), e88, inR_c (show L < 2 ^ 31 by omega), h9, hi, a1, a2, a3]
        have fin : ∀ x, x = cutL (hg h 12 k) p2 → InvH (sI (sI (sI (sI h 6 4 0) (8 + k) j (cutL (hg h 12 k) p2)) 86 0 0) 89 (60 * k + j) x) ∧ Wr [0, 1] h (sI (sI (sI (sI h 6 4 0) (8 + k) j (cutL (hg h 12 k) p2)) 86 0 0) 89 (60 * k + j) x) := by
          intro x hx
          subst hx
          refine ⟨⟨?_, ?_⟩, ?_⟩
          · rw [hg_ne _ (by decide), hg_ne _ (by decide), hg_ne _ (by omega), hg_eq, hg_ne _ (by decide), hg_eq]
          · intro i hi'
            obtain ⟨hl', ⟨L', hL', e13', e88'⟩, hr'⟩ := iv.2 i hi'
            have r2 : ∀ b m, b ≠ 6 → b ≠ 86 → b ≠ 89 → ¬ (8 ≤ b ∧ b < 12) → hg (sI (sI (sI (sI h 6 4 0) (8 + k) j (cutL (hg h 12 k) p2)) 86 0 0) 89 (60 * k + j) (cutL (hg h 12 k) p2)) b m = hg h b m := by
              intro b m h6 h86 h89 h8
              rw [hg_ne _ h89, r _ _ b m h6 h86 h8]
            rw [r2 12 i (by decide) (by decide) (by decide) (by omega), r2 87 i (by decide) (by decide) (by decide) (by omega), r2 13 i (by decide) (by decide) (by decide) (by omega), r2 88 i (by decide) (by decide) (by decide) (by omega)]
            refine ⟨hl', ⟨L', hL', e13', e88'⟩, ?_⟩
            intro m hm
            have q := hr' m hm
            by_cases e : i = k ∧ m = j
            · obtain ⟨rfl, rfl⟩ := e
              rw [hg_ne _ (show 8 + i ≠ 89 by omega), hg_ne _ (show 8 + i ≠ 86 by omega), hg_eq, hg_eq]
            · have e2 : 60 * i + m ≠ 60 * k + j := by omega
              rw [hg_ne _ (show 8 + i ≠ 89 by omega), hg_ne _ (show 8 + i ≠ 86 by omega), hg_sI, if_neg (fun z => e ⟨by omega, z.2⟩), hg_ne _ (show 8 + i ≠ 6 by omega), hg_nj _ e2, hg_ne _ (by decide), hg_ne _ (by omega), hg_ne _ (by decide)]
              exact q
          · have m1 : (1 : Nat) ∈ [0, 1] := by decide
            exact Wr_sI (Wr_sI (Wr_sI (Wr_sI (Wr_refl _ _) m1) (by rw [comS hk]; exact m1)) m1) m1
        have f12' : hg (sI h 6 4 0) 12 k = hg h 12 k := f12 0
        rw [lane_eq hl h1]
        by_cases c0 : hg h 12 k = 0
        · rw [if_neg (fun z => z c0)]
          exact ⟨rfl, fin _ (by unfold cutL; rw [if_pos c0])⟩
        · rw [if_pos c0]
          by_cases c1 : hg h 12 k = 1
          · rw [if_neg (fun z => z c1)]
            exact ⟨rfl, fin _ (by unfold cutL; rw [if_neg c0, if_pos c1])⟩
          · rw [if_pos c1]
            exact ⟨rfl, fin _ (by unfold cutL; rw [if_neg c0, if_neg c1])⟩
      · have g87' : ∀ x y, hg (sI (sI h 6 4 x) 86 0 y) 87 k = hg h 87 k := fun x y => by rw [hg_ne _ (by decide), hg_ne _ (by decide)]
        have g88 : ∀ x y, hg (sI (sI h 6 4 x) 86 0 y) 88 k = nI L := fun x y => by rw [hg_ne _ (by decide), hg_ne _ (by decide), e88]
        simp only [h1, hi, not_true, not_false_iff, if_true, if_false, g79, g256, cI, e170, e168, rI_i, b2i_0, hp, and_self, hkk, bI k 4 hk (by omega), g87', g88, h9, inR_c (show L < 2 ^ 31 by omega), g166, sI_sI]
        exact ⟨trivial, InvH_f iv 3, Wr_f (Wr_refl _ _) 3 (by decide)⟩
  · simp only [hp, not_true, not_false_iff, if_true, if_false, g256, cI, e170, rI_i, b2i_0]
    exact ⟨trivial, InvH_f iv 0, Wr_f (Wr_refl _ _) 0 (by decide)⟩
theorem c_cell (X : XS) (h : H2) (iv : InvH h) (p0 p1 p2 : Int32) : EC X 154 [.ref 5, .int p0, .int p1, .int p2] h (fun v1 h1 => EC X 257 [.ref 86, .int p0, .int p1, .int p2] h1 (fun v2 h2 => v1 = v2 ∧ InvH h2 ∧ Wr [0, 1] h h2)) := by
  rw [g154]
  by_cases hp : 0 ≤ p0 ∧ p0 ≤ 3
  · by_cases hq : 0 ≤ p2 ∧ p2 ≤ 2
    · obtain ⟨k, hk, rfl⟩ := sh4 hp
      have hkk : (nI k).toNatClampNeg = k := nI_clamp (by omega)
      obtain ⟨hl, ⟨L, hL, e13, e88⟩, hr⟩ := iv.2 k hk
      simp only [cI, e84_C X h _ k L hk hL e13 p2 1 p1 1 hq (by decide), rI_i]
      have g87' : ∀ x y, hg (sI (sI h 6 4 x) 86 0 y) 87 k = hg h 87 k := fun x y => by rw [hg_ne _ (by decide), hg_ne _ (by decide)]
      have g88' : ∀ x y, hg (sI (sI h 6 4 x) 86 0 y) 88 k = nI L := fun x y => by rw [hg_ne _ (by decide), hg_ne _ (by decide), e88]
      have n11 : ¬ ((-10 : Int32) - 1 = 0) := by decide
      have n12 : ¬ ((-10 : Int32) - 2 = 0) := by decide
      have n13 : ¬ ((-10 : Int32) - 3 = 0) := by decide
      by_cases h1 : hg h 12 k = -1
      · have h9 := (lane_no hl).mp h1
        have w : tkW h k p2 p1 1 = 1 := by unfold tkW; rw [if_pos h1]
        simp only [w, show ¬ (1 : Int32) = 0 by decide, if_false, n11, not_false_iff, if_true]
        simp only [g257, g257_50, cI, cJ, e170, e171, e168, rI_i, rJ_i, b2i_0, hp, hq, and_self, not_true, not_false_iff, if_true, if_false, hkk, bI k 4 hk (by omega), g87', h9, g167, sI_sI]
        exact ⟨trivial, InvH_f iv 1, Wr_f (Wr_refl _ _) 1 (by decide)⟩
      · have h9 : ¬ hg h 87 k = -9 := fun z => h1 ((lane_no hl).mpr z)
        have le := lane_eq hl h1
        by_cases h2 : hg h 12 k = p2
        · have le2 : hg h 87 k = p2 := by rw [le, h2]
          have h9' : ¬ p2 = -9 := by rw [← le2]; exact h9
          by_cases hi : 0 ≤ p1 ∧ p1 < nI L
          · obtain ⟨j, hj, rfl⟩ := (inR_lt (show L < 2 ^ 31 by omega)).mp hi
            have hjj : (nI j).toNatClampNeg = j := nI_clamp (by omega)
            obtain ⟨a1, a2, a3⟩ := c60 (j := j) hk (by omega)
            have w : tkW h k p2 (nI j) 1 = 0 := by
              unfold tkW
              rw [if_neg h1, if_pos h2, if_pos (by decide), if_pos ⟨hi.1, by rw [e13]; exact nI_le (by omega) (by omega)⟩, e13, if_neg]
              obtain ⟨M, rfl⟩ : ∃ M, L = M + 1 := ⟨L - 1, by omega⟩
              rw [nI_pred]
              exact nI_nlt (by omega) (by omega)
            have c1 : (1 : Int32).toNatClampNeg = 1 := by decide
            have r : ∀ y b i, b ≠ 6 → b ≠ 86 → b ≠ 14 → hg (sI (sC (sI h 6 4 0) 14 (8 + k) j 0 1) 86 0 y) b i = hg h b i := by
              intro y b i h6 h86 h14
              rw [hg_ne _ h86, hg_sCn _ h14, hg_ne _ h6]
            simp only [w, if_true, not_true, if_false, hjj, c1]
            simp only [g257, g257_50, cI, cJ, e170, e171, e168, rI_i, rJ_i, b2i_0, hp, hq, and_self, not_true, not_false_iff, if_true, if_false, hkk, bI k 4 hk (by omega), r _ 87 k (by decide) (by decide) (by decide), r _ 88 k (by decide) (by decide) (by decide), e88, inR_c (show L < 2 ^ 31 by omega), h9, h9', le2, hi, a1, a2, a3, r _ 89 (60 * k + j) (by decide) (by decide) (by decide)]
            refine ⟨?_, ?_, ?_⟩
            · rw [hg_sC, if_pos ⟨rfl, by omega, by omega⟩, hg_ne _ (by omega), ← hr j (by omega)]
              rfl
            · apply InvH_w iv
              · rw [hg_ne _ (by decide), hg_sCn _ (by decide), hg_eq, hg_eq]
              · intro a i ha
                exact r _ a i (by omega) (by omega) (by omega)
            · exact Wr_sI (Wr_sC (Wr_sI (Wr_refl _ _) (show (1 : Nat) ∈ _ by decide)) (fun j => show (0 : Nat) ∈ _ by decide)) (show (1 : Nat) ∈ _ by decide)
          · have w : tkW h k p2 p1 1 = 3 := by
              unfold tkW
              rw [if_neg h1, if_pos h2, if_pos (by decide)]
              by_cases h4 : 0 ≤ p1 ∧ p1 ≤ hg h 13 k
              · rw [if_pos h4, if_pos]
                rw [e13] at h4 ⊢
                obtain ⟨j, hj, rfl⟩ := nI_of (i_nlt.mpr h4.1)
                have b1 := (nI_leI hj (by omega)).mp h4.2
                have b2 : ¬ j < L := fun z => hi ⟨h4.1, nI_lt z (by omega)⟩
                have : j = L := by omega
                subst this
                cases j with
                | zero => decide
                | succ j => rw [nI_pred]; exact nI_lt (by omega) (by omega)
              · rw [if_neg h4]
            simp only [w, show ¬ (3 : Int32) = 0 by decide, if_false, n13, not_false_iff, if_true]
            simp only [g257, g257_50, cI, cJ, e170, e171, e168, rI_i, rJ_i, b2i_0, hp, hq, and_self, not_true, not_false_iff, if_true, if_false, hkk, bI k 4 hk (by omega), g87', g88', le2, h9, h9', inR_c (show L < 2 ^ 31 by omega), hi, g167, sI_sI]
            exact ⟨trivial, InvH_f iv 3, Wr_f (Wr_refl _ _) 3 (by decide)⟩
        · have le2 : ¬ hg h 87 k = p2 := by rw [le]; exact h2
          have w : tkW h k p2 p1 1 = 2 := by unfold tkW; rw [if_neg h1, if_neg h2]
          simp only [w, show ¬ (2 : Int32) = 0 by decide, if_false, n12, not_false_iff, if_true]
          simp only [g257, g257_50, cI, cJ, e170, e171, e168, rI_i, rJ_i, b2i_0, hp, hq, and_self, not_true, not_false_iff, if_true, if_false, hkk, bI k 4 hk (by omega), g87', h9, le2, g167, sI_sI]
          exact ⟨trivial, InvH_f iv 2, Wr_f (Wr_refl _ _) 2 (by decide)⟩
    · simp only [cI, e84_B X h _ p0 p2 1 p1 1 hp (fun z => hq z.1), rI_i, show ¬ (-2 : Int32) = 0 by decide, not_false_iff, if_true]
      simp only [g257, cI, e170, e171, rI_i, b2i_0, hp, hq, and_self, not_true, not_false_iff, if_true, if_false]
      exact ⟨trivial, InvH_f iv 0, Wr_f (Wr_refl _ _) 0 (by decide)⟩
  · simp only [cI, e84_A X h _ p0 p2 1 p1 1 hp, rI_i, show ¬ (-1 : Int32) = 0 by decide, not_false_iff, if_true]
    simp only [g257, cI, e170, rI_i, b2i_0, hp, not_true, not_false_iff, if_true, if_false]
    exact ⟨trivial, InvH_f iv 0, Wr_f (Wr_refl _ _) 0 (by decide)⟩
