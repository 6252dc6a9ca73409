def cutL (lane v : Int32) : Int32 := if lane = 0 then v.toInt8.toInt32 else if lane = 1 then v.toInt16.toInt32 else v
theorem e83 (X : XS) (h : H2) (Q : Option Value → H2 → Prop) (p0 p1 : Int32) : EC X 83 [.int p0, .int p1] h Q ↔ Q (some (.int (cutL p0 p1))) h := by
  rw [g83]
  unfold cutL
  by_cases h0 : p0 = 0
  · rw [if_pos h0, if_pos h0]
  · rw [if_neg h0, if_neg h0]
    by_cases h1 : p0 = 1
    · rw [if_pos h1, if_pos h1]
    · rw [if_neg h1, if_neg h1]
theorem lane_no {h : H2} {k : Nat} (hl : (hg h 12 k = -1 ∧ hg h 87 k = -9) ∨ (hg h 12 k = hg h 87 k ∧ 0 ≤ hg h 12 k ∧ hg h 12 k ≤ 2)) : hg h 12 k = -1 ↔ hg h 87 k = -9 := by
  rcases hl with ⟨a, b⟩ | ⟨a, b, c⟩
  · exact ⟨fun _ => b, fun _ => a⟩
  · constructor
    · intro z; rw [z] at b; exact absurd b (by decide)
    · intro z; rw [← a] at z; rw [z] at b; exact absurd b (by decide)
theorem lane_eq {h : H2} {k : Nat} (hl : (hg h 12 k = -1 ∧ hg h 87 k = -9) ∨ (hg h 12 k = hg h 87 k ∧ 0 ≤ hg h 12 k ∧ hg h 12 k ≤ 2)) (hn : ¬ hg h 12 k = -1) : hg h 87 k = hg h 12 k := by
  rcases hl with ⟨a, b⟩ | ⟨a, b, c⟩
  · exact absurd a hn
  · exact a.symm
theorem c_put (X : XS) (h : H2) (iv : InvH h) (p0 p1 p2 : Int32) : EC X 153 [.ref 5, .int p0, .int p1, .int p2] h (fun v1 h1 => EC X 256 [.ref 86, .int p0, .int p1, .int p2] h1 (fun v2 h2 => v1 = v2 ∧ InvH h2 ∧ Wr [0, 1] h h2)) := by
  simp only [g153, g82, cI, e77, rI_i, b2i_0]
  by_cases hp : 0 ≤ p0 ∧ p0 ≤ 3
  · obtain ⟨k, hk, rfl⟩ := sh4 hp
    have hkk : (nI k).toNatClampNeg = k := nI_clamp (by omega)
    obtain ⟨hl, ⟨L, hL, e13, e88⟩, hr⟩ := iv.2 k hk
    have f12 : ∀ x, hg (sI h 6 4 x) 12 k = hg h 12 k := fun x => hg_ne h (by decide)
    have f13 : ∀ x, hg (sI h 6 4 x) 13 k = nI L := fun x => by rw [hg_ne h (by decide), e13]
    simp only [hp, and_self, not_true, not_false_iff, if_false, if_true, hkk, bI k 4 hk (by omega), f12, f13, e161, rI_i, b2i_0, inR_c (show L < 2 ^ 31 by omega)]
    by_cases h1 : hg h 12 k = -1
    · have h9 := (lane_no hl).mp h1
      have g87 : ∀ x y, hg (sI (sI h 6 4 x) 86 0 y) 87 k = -9 := fun x y => by rw [hg_ne _ (by decide), hg_ne _ (by decide), h9]
      simp only [h1, not_true, if_false, g79, g256, cI, e170, e168, rI_i, b2i_0, hp, and_self, not_false_iff, if_true, hkk, bI k 4 hk (by omega), g87, g166, sI_sI]
      exact ⟨trivial, InvH_f iv 1, Wr_f (Wr_refl _ _) 1 (by decide)⟩
    · have h9 : ¬ hg h 87 k = -9 := fun z => h1 ((lane_no hl).mpr z)
      by_cases hi : 0 ≤ p1 ∧ p1 < nI L
      · have hi2 := ((inR_c (show L < 2 ^ 31 by omega)).mpr hi).2
        obtain ⟨j, hj, rfl⟩ := (inR_lt (show L < 2 ^ 31 by omega)).mp hi
        have hjj : (nI j).toNatClampNeg = j := nI_clamp (by omega)
        have oo : ∀ n, (okT X.1 137 n (8 + k) 0 && Nat.ble 5 (8 + k)) = true := fun n => by
          rw [okS X.1 _ hk, show Nat.ble 5 (8 + k) = true from Nat.ble_eq.mpr (by omega)]; rfl
        simp only [h1, hi, and_self, not_true, not_false_iff, if_true, if_false, rc7 hk, oel_s', e83, rI_i, oo, cond_true, shS X.1 hk, hjj, bI j 60 (by omega) (by omega)]
        obtain ⟨a1, a2, a3⟩ := c60 (j := j) hk (by omega)
        have r : ∀ x y b i, b ≠ 6 → b ≠ 86 → ¬ (8 ≤ b ∧ b < 12) → hg (sI (sI (sI h 6 4 0) (8 + k) j x) 86 0 y) b i = hg h b i := by
          intro x y b i h6 h86 h8
          rw [hg_ne _ h86, hg_ne _ (by omega), hg_ne _ h6]
        simp only [g256, cI, e170, e168, rI_i, b2i_0, hp, and_self, not_true, not_false_iff, if_true, if_false, hkk, bI k 4 hk (by omega), r _ _ 87 k (by decide) (by decide) (by omega), r _ _ 88 k (by decide) (by decide) (by omega), e88, inR_c (show L < 2 ^ 31 by omega), h9, hi, hi2, a1, a2, a3]
        have fin : ∀ x, x = cutL (hg h 12 k) p2 → InvH (sI (sI (sI (sI h 6 4 0) (8 + k) j (cutL (hg h 12 k) p2)) 86 0 0) 89 (60 * k + j) x) ∧ Wr [0, 1] h (sI (sI (sI (sI h 6 4 0) (8 + k) j (cutL (hg h 12 k) p2)) 86 0 0) 89 (60 * k + j) x) := by
          intro x hx
          subst hx
          refine ⟨⟨?_, ?_⟩, ?_⟩
          · rw [hg_ne _ (by decide), hg_ne _ (by decide), hg_ne _ (by omega), hg_eq, hg_ne _ (by decide), hg_eq]
          · intro i hi'
            obtain ⟨hl', ⟨L', hL', e13', e88'⟩, hr'⟩ := iv.2 i hi'
            have r2 : ∀ b m, b ≠ 6 → b ≠ 86 → b ≠ 89 → ¬ (8 ≤ b ∧ b < 12) → hg (sI (sI (sI (sI h 6 4 0) (8 + k) j (cutL (hg h 12 k) p2)) 86 0 0) 89 (60 * k + j) (cutL (hg h 12 k) p2)) b m = hg h b m := by
              intro b m h6 h86 h89 h8
              rw [hg_ne _ h89, r _ _ b m h6 h86 h8]
            rw [r2 12 i (by decide) (by decide) (by decide) (by omega), r2 87 i (by decide) (by decide) (by decide) (by omega), r2 13 i (by decide) (by decide) (by decide) (by omega), r2 88 i (by decide) (by decide) (by decide) (by omega)]
            refine ⟨hl', ⟨L', hL', e13', e88'⟩, ?_⟩
            intro m hm
            have q := hr' m hm
            by_cases e : i = k ∧ m = j
            · obtain ⟨rfl, rfl⟩ := e
              rw [hg_ne _ (show 8 + i ≠ 89 by omega), hg_ne _ (show 8 + i ≠ 86 by omega), hg_eq, hg_eq]
            · have e2 : 60 * i + m ≠ 60 * k + j := by omega
              rw [hg_ne _ (show 8 + i ≠ 89 by omega), hg_ne _ (show 8 + i ≠ 86 by omega), hg_sI, if_neg (fun z => e ⟨by omega, z.2⟩), hg_ne _ (show 8 + i ≠ 6 by omega), hg_nj _ e2, hg_ne _ (by decide), hg_ne _ (by omega), hg_ne _ (by decide)]
              exact q
          · have m1 : (1 : Nat) ∈ [0, 1] := by decide
            exact Wr_sI (Wr_sI (Wr_sI (Wr_sI (Wr_refl _ _) m1) (by rw [comS hk]; exact m1)) m1) m1
        have f12' : hg (sI h 6 4 0) 12 k = hg h 12 k := f12 0
        rw [lane_eq hl h1]
        by_cases c0 : hg h 12 k = 0
        · rw [if_neg (fun z => z c0)]
          exact ⟨trivial, fin _ (by unfold cutL; rw [if_pos c0])⟩
        · rw [if_pos c0]
          by_cases c1 : hg h 12 k = 1
          · rw [if_neg (fun z => z c1)]
            exact ⟨trivial, fin _ (by unfold cutL; rw [if_neg c0, if_pos c1])⟩
          · rw [if_pos c1]
            exact ⟨trivial, fin _ (by unfold cutL; rw [if_neg c0, if_neg c1])⟩
      · have g87' : ∀ x y, hg (sI (sI h 6 4 x) 86 0 y) 87 k = hg h 87 k := fun x y => by rw [hg_ne _ (by decide), hg_ne _ (by decide)]
        have g88 : ∀ x y, hg (sI (sI h 6 4 x) 86 0 y) 88 k = nI L := fun x y => by rw [hg_ne _ (by decide), hg_ne _ (by decide), e88]
        simp only [h1, hi, not_true, not_false_iff, if_true, if_false, g79, g256, cI, e170, e168, rI_i, b2i_0, hp, and_self, hkk, bI k 4 hk (by omega), g87', g88, h9, inR_c (show L < 2 ^ 31 by omega), g166, sI_sI]
        exact ⟨trivial, InvH_f iv 3, Wr_f (Wr_refl _ _) 3 (by decide)⟩
  · simp only [hp, not_true, not_false_iff, if_true, if_false, g256, cI, e170, rI_i, b2i_0]
    exact ⟨trivial, InvH_f iv 0, Wr_f (Wr_refl _ _) 0 (by decide)⟩
