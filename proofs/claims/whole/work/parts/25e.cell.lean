theorem e154_1 (X : XS) (h : H2) (Q : Option Value → H2 → Prop) (k L : Nat) (hk : k < 4) (hL : L ≤ 60) (e13 : hg h 13 k = nI L) (p1 p2 : Int32) (hq : 0 ≤ p2 ∧ p2 ≤ 2) (w : Int32) (hw : tkW h k p2 p1 1 = w) (w0 : ¬ w = 0) (nz : ¬ -10 - w = 0) : EC X 154 [.ref 5, .int (nI k), .int p1, .int p2] h Q ↔ Q (some (.long vLOST)) (sI h 6 4 w) := by
  rw [g154]
  show EC X 84 _ h _ ↔ _
  rw [e84_C X h _ k L hk hL e13 p2 1 p1 1 hq n1_0, hw, if_neg w0, rI_i]; dsimp only; rw [if_pos nz]
theorem e154_0 (X : XS) (h : H2) (Q : Option Value → H2 → Prop) (k L j : Nat) (hk : k < 4) (hL : L ≤ 60) (hj : j < L) (e13 : hg h 13 k = nI L) (p2 : Int32) (hq : 0 ≤ p2 ∧ p2 ≤ 2) (hw : tkW h k p2 (nI j) 1 = 0) : EC X 154 [.ref 5, .int (nI k), .int (nI j), .int p2] h Q ↔ Q (some (.long (hg h (8 + k) j).toInt64)) (sC (sI h 6 4 0) 14 (8 + k) j 0 1) := by
  have hjj : (nI j).toNatClampNeg = j := nI_clamp (by omega)
  have c1 : (1 : Int32).toNatClampNeg = 1 := by decide
  have r14 : hg (sC (sI h 6 4 0) 14 (8 + k) j 0 1) 14 0 = hg h (8 + k) j := by
    rw [hg_sC, if_pos ⟨rfl, by omega, by omega⟩, hg_ne _ (by omega)]
    rfl
  rw [g154]
  show EC X 84 _ h _ ↔ _
  rw [e84_C X h _ k L hk hL e13 p2 1 (nI j) 1 hq n1_0, if_pos hw, rI_i]; dsimp only; rw [if_neg (fun z => z rfl), hjj, c1, r14]
theorem c_cell (X : XS) (h : H2) (iv : InvH h) (p0 p1 p2 : Int32) : EC X 154 [.ref 5, .int p0, .int p1, .int p2] h (fun v1 h1 => EC X 257 [.ref 86, .int p0, .int p1, .int p2] h1 (fun v2 h2 => v1 = v2 ∧ InvH h2 ∧ Wr [0, 1] h h2)) := by
  by_cases hp : 0 ≤ p0 ∧ p0 ≤ 3
  · by_cases hq : 0 ≤ p2 ∧ p2 ≤ 2
    · obtain ⟨k, hk, rfl⟩ := sh4 hp
      obtain ⟨hl, ⟨L, hL, e13, e88⟩, hr⟩ := iv.2 k hk
      have g87' : ∀ x, hg (sI h 6 4 x) 87 k = hg h 87 k := fun x => by rw [hg_ne _ (by decide)]
      have g88' : ∀ x, hg (sI h 6 4 x) 88 k = nI L := fun x => by rw [hg_ne _ (by decide), e88]
      by_cases h1 : hg h 12 k = -1
      · have h9 := (lane_no hl).mp h1
        rw [e154_1 X h _ k L hk hL e13 p1 p2 hq 1 (cell_w1 h k p1 p2 h1) n1_0 n10_1, e257_1 X _ _ k hk p1 p2 hq (by rw [g87', h9])]
        exact ⟨rfl, InvH_f iv 1, Wr_f (Wr_refl _ _) 1 (by decide)⟩
      · have h9 : ¬ hg h 87 k = -9 := fun z => h1 ((lane_no hl).mpr z)
        have le := lane_eq hl h1
        by_cases h2 : hg h 12 k = p2
        · have le2 : hg h 87 k = p2 := by rw [le, h2]
          by_cases hi : 0 ≤ p1 ∧ p1 < nI L
          · obtain ⟨j, hj, rfl⟩ := (inR_lt (show L < 2 ^ 31 by omega)).mp hi
            rw [e154_0 X h _ k L j hk hL hj e13 p2 hq (cell_w0 h k j L hL p2 h1 h2 e13 hj)]
            have r : ∀ b i, b ≠ 6 → b ≠ 14 → hg (sC (sI h 6 4 0) 14 (8 + k) j 0 1) b i = hg h b i := by
              intro b i h6 h14
              rw [hg_sCn _ h14, hg_ne _ h6]
            rw [e257_0 X _ _ k L j hk hL hj p2 hq (by rw [r _ _ (by decide) (by decide)]; exact h9) (by rw [r _ _ (by decide) (by decide)]; exact le2) (by rw [r _ _ (by decide) (by decide)]; exact e88), r _ _ (by decide) (by decide), ← hr j (by omega)]
            refine ⟨rfl, ?_, ?_⟩
            · apply InvH_w iv
              · rw [hg_ne _ (by decide), hg_sCn _ (by decide), hg_eq, hg_eq]
              · intro a i ha
                rw [hg_ne _ (by omega)]
                exact r a i (by omega) (by omega)
            · exact Wr_sI (Wr_sC (Wr_sI (Wr_refl _ _) (show (1 : Nat) ∈ _ by decide)) (fun j => show (0 : Nat) ∈ _ by decide)) (show (1 : Nat) ∈ _ by decide)
          · rw [e154_1 X h _ k L hk hL e13 p1 p2 hq 3 (cell_w3 h k L hL p1 p2 h1 h2 e13 hi) n3_0 n10_3, e257_3 X _ _ k L hk hL p1 p2 hq (by rw [g87']; exact h9) (by rw [g87']; exact le2) (g88' 3) hi]
            exact ⟨rfl, InvH_f iv 3, Wr_f (Wr_refl _ _) 3 (by decide)⟩
        · have le2 : ¬ hg h 87 k = p2 := by rw [le]; exact h2
          have w : tkW h k p2 p1 1 = 2 := by unfold tkW; rw [if_neg h1, if_neg h2]
          rw [e154_1 X h _ k L hk hL e13 p1 p2 hq 2 w n2_0 n10_2, e257_2 X _ _ k hk p1 p2 hq (by rw [g87']; exact h9) (by rw [g87']; exact le2)]
          exact ⟨rfl, InvH_f iv 2, Wr_f (Wr_refl _ _) 2 (by decide)⟩
    · rw [g154]
      show EC X 84 _ h _
      rw [e84_B X h _ p0 p2 1 p1 1 hp (fun z => hq z.1), rI_i]; dsimp only; rw [if_pos (by decide)]
      rw [g257]
      simp only [cI, e170, e171, rI_i, b2i_0, hp, hq, and_self, not_true, not_false_iff, if_false]
      exact ⟨trivial, InvH_f iv 0, Wr_f (Wr_refl _ _) 0 (by decide)⟩
  · rw [g154]
    show EC X 84 _ h _
    rw [e84_A X h _ p0 p2 1 p1 1 hp, rI_i]; dsimp only; rw [if_pos (by decide)]
    rw [g257]
    simp only [cI, e170, rI_i, b2i_0, hp, not_true, not_false_iff, if_true]
    exact ⟨trivial, InvH_f iv 0, Wr_f (Wr_refl _ _) 0 (by decide)⟩
