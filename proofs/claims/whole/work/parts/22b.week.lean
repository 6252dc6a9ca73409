theorem max0 (x : Int32) : (if 0 < x then x else 0) = (if 0 ≤ x then x else 0) := by
  by_cases h : 0 < x
  · rw [if_pos h, if_pos (Int32.le_of_lt h)]
  · rw [if_neg h]
    by_cases h0 : 0 ≤ x
    · rw [if_pos h0]
      exact Int32.le_antisymm h0 (i_nlt.mp h)
    · rw [if_neg h0]
theorem min0 (a w : Int32) : (if a < w then a else w) = (if a ≤ w then a else w) := by
  by_cases h : a < w
  · rw [if_pos h, if_pos (Int32.le_of_lt h)]
  · rw [if_neg h]
    by_cases h0 : a ≤ w
    · rw [if_pos h0]
      exact Int32.le_antisymm (i_nlt.mp h) h0
    · rw [if_neg h0]
/-- the price after a week -/
def nxP (n : Nat) (w a : Int32) : Nat := if w ≤ a then (if a < 2 * w then n else if n = 1 then 1 else n - 1) else if n = 99 then 99 else n + 1
theorem nxP_r {n : Nat} {w a : Int32} (h1 : 1 ≤ n) (h2 : n ≤ 99) : 1 ≤ nxP n w a ∧ nxP n w a ≤ 99 := by
  unfold nxP
  by_cases h : w ≤ a
  · rw [if_pos h]
    by_cases hh : a < 2 * w
    · rw [if_pos hh]; omega
    · rw [if_neg hh]
      by_cases e : n = 1
      · rw [if_pos e]; omega
      · rw [if_neg e]; omega
  · rw [if_neg h]
    by_cases e : n = 99
    · rw [if_pos e]; omega
    · rw [if_neg e]; omega
theorem e98 (X : XS) (h : H2) (Q : Option Value → H2 → Prop) (n : Nat) (h1 : 1 ≤ n) (h2 : n ≤ 99) (w a : Int32) : EC X 98 [.int (nI n), .int w, .int a] h Q ↔ Q (some (.int (nI (nxP n w a)))) h := by
  rw [g98]
  unfold nxP
  by_cases hw : w ≤ a
  · rw [if_pos hw, if_pos hw]
    by_cases hh : a < 2 * w
    · rw [if_pos hh, if_pos hh]
    · rw [if_neg hh, if_neg hh]
      obtain ⟨m, rfl⟩ : ∃ m, n = m + 1 := ⟨n - 1, by omega⟩
      rw [nI_pred]
      have e1 : (1 : Int32) = nI 1 := by decide
      rw [e1]
      simp only [nI_ltI (show 1 < 2 ^ 31 by omega) (show m < 2 ^ 31 by omega)]
      by_cases hm : 1 < m
      · rw [if_pos hm, if_neg (by omega)]
        rfl
      · rw [if_neg hm]
        by_cases e : m + 1 = 1
        · rw [if_pos e]
        · rw [if_neg e]
          have : m = 1 := by omega
          subst this
          rfl
  · rw [if_neg hw, if_neg hw, nI_1]
    have e1 : (99 : Int32) = nI 99 := by decide
    rw [e1]
    simp only [nI_ltI (show n + 1 < 2 ^ 31 by omega) (show 99 < 2 ^ 31 by omega)]
    by_cases hm : n + 1 < 99
    · rw [if_pos hm, if_neg (by omega)]
    · rw [if_neg hm]
      by_cases e : n = 99
      · rw [if_pos e]
      · rw [if_neg e]
        have : n = 98 := by omega
        subst this
        rfl
theorem sI_self (h : H2) (a i : Nat) : sI h a i (hg h a i) = h := by
  have : (sI h a i (hg h a i)).2.1 = h.2.1 := by
    funext b j
    have := hg_sI h a i (hg h a i) b j
    by_cases e : b = a ∧ j = i
    · rw [if_pos e] at this
      obtain ⟨rfl, rfl⟩ := e
      exact this
    · rw [if_neg e] at this
      exact this
  exact Prod.ext rfl (Prod.ext this rfl)
theorem sI_self' {h : H2} {a i : Nat} {x : Int32} (e : hg h a i = x) : sI h a i x = h := by rw [← e]; exact sI_self h a i
theorem m252 (X : XS) (h : H2) (Q : Option Value → H2 → Prop) (j n : Nat) (hj : j < 6) (h1 : 1 ≤ n) (h2 : n ≤ 99) (hp : hg h 134 j = nI n) (d a w s : Int32) :
    E X 252 96 [some (.ref 86), some (.int (nI j)), some (.int d), some (.int a), some (.int w), none] [.int s] h Q ↔ Q (some (.int s)) (sI (sI (sI (sI h 134 j (nI (nxP n w a))) 133 j (a - s)) 135 j (hg h 135 j + 1)) 136 j (hg h 136 j + s)) := by
  have hk : (nI j).toNatClampNeg = j := nI_clamp (by omega)
  have hi : ¬ (nI j < 0 ∨ 6 ≤ j) := fun z => z.elim (nI_pos (by omega)) (by omega)
  have e1 : (1 : Int32) = nI 1 := by decide
  have e99 : (99 : Int32) = nI 99 := by decide
  have d1 : hg (sI h 134 j (nI (nxP n w a))) 135 j = hg h 135 j := hg_ne h (by decide)
  have d2 : hg (sI h 134 j (nI (nxP n w a))) 136 j = hg h 136 j := hg_ne h (by decide)
  rw [g252_96]
  simp only [g252_128, g252_162, hk, hi, if_false, hp]
  rw [e99]
  simp only [nI_leI (show 99 < 2 ^ 31 by omega) (show n < 2 ^ 31 by omega)]
  by_cases hw : w ≤ a
  · have hn : ¬ a < w := Int32.not_lt.mpr hw
    simp only [hw, hn, if_true, if_false]
    by_cases hh : a < 2 * w
    · have en : nxP n w a = n := by unfold nxP; rw [if_pos hw, if_pos hh]
      simp only [hh, if_true, en, sI_self' hp]
    · simp only [hh, if_false]
      by_cases e : n = 1
      · have en : nxP n w a = n := by unfold nxP; rw [if_pos hw, if_neg hh, if_pos e, e]
        have l : nI n ≤ 1 := by rw [e]; decide
        simp only [l, if_true, en, sI_self' hp]
      · have l : ¬ nI n ≤ 1 := by rw [e1, nI_leI (by omega) (by omega)]; omega
        obtain ⟨m, rfl⟩ : ∃ m, n = m + 1 := ⟨n - 1, by omega⟩
        have en : nxP (m + 1) w a = m := by unfold nxP; rw [if_pos hw, if_neg hh, if_neg e]; rfl
        simp only [l, if_false, en, nI_pred] at d1 d2 ⊢
        simp only [d1, d2]
  · have hn : a < w := Int32.not_le.mp hw
    simp only [hw, hn, if_true, if_false]
    by_cases e : n = 99
    · have en : nxP n w a = n := by unfold nxP; rw [if_neg hw, if_pos e, e]
      have : 99 ≤ n := by omega
      simp only [this, if_true, en, sI_self' hp, ite_self]
    · have en : nxP n w a = n + 1 := by unfold nxP; rw [if_neg hw, if_neg e]
      have : ¬ 99 ≤ n := by omega
      simp only [this, if_false, en, nI_1] at d1 d2 ⊢
      simp only [d1, d2]
def wkW (h : H2) (j n : Nat) : Int32 := if 0 ≤ hg h 81 j - nI n / 4 then hg h 81 j - nI n / 4 else 0
def wkD (a w : Int32) : Int32 := if a ≤ w then a else w
theorem e97 (X : XS) (h : H2) (Q : Option Value → H2 → Prop) (j n : Nat) (hj : j < 6) (h1 : 1 ≤ n) (h2 : n ≤ 99) (hp : hg h 83 j = nI n) (p1 : Int32) :
    EC X 97 [.ref 80, .int (nI j), .int p1] h Q ↔ if hg h 82 j + p1 ≤ 9999 then Q (some (.int (wkD (hg h 82 j + p1) (wkW h j n)))) (sI (sI (sI (sI h 82 j (hg h 82 j + p1 - wkD (hg h 82 j + p1) (wkW h j n))) 83 j (nI (nxP n (wkW h j n) (hg h 82 j + p1)))) 84 j (hg h 84 j + 1)) 85 j (hg h 85 j + wkD (hg h 82 j + p1) (wkW h j n))) else Q (some (.int (-4))) h := by
  have hk : (nI j).toNatClampNeg = j := nI_clamp (by omega)
  have hi : ¬ (nI j < 0 ∨ 6 ≤ j) := fun z => z.elim (nI_pos (by omega)) (by omega)
  rw [g97]
  simp only [hk, hi, if_false, hp, cI, e98 X _ _ n h1 h2, rI_i, max0, min0]
  rw [hg_ne h (by decide), hg_ne h (by decide)]
  rfl
theorem c_week (X : XS) (h : H2) (iv : InvT h) (p0 p1 : Int32) : EC X 149 [.ref 5, .int p0, .int p1] h (fun v1 h1 => EC X 252 [.ref 86, .int p0, .int p1] h1 (fun v2 h2 => v1 = v2 ∧ InvT h2 ∧ Wr [0, 11] h h2)) := by
  have iv' := iv
  obtain ⟨c, hc, e1, e2, hr, hz⟩ := iv
  rw [g149]
  simp only [cI, e96, rI_i, b2i_0, e1, inR_c (show c < 2 ^ 31 by omega), e161]
  by_cases hp : 0 ≤ p0 ∧ p0 < nI c
  · simp only [hp, not_true, not_false_iff, if_true, and_self]
    have n0 : ¬ p0 < 0 := i_nlt.mpr hp.1
    have n1 := hp.2
    obtain ⟨j, hj, rfl⟩ := (inR_lt (show c < 2 ^ 31 by omega)).mp hp
    have hk : (nI j).toNatClampNeg = j := nI_clamp (by omega)
    have hi : ¬ (nI j < 0 ∨ 6 ≤ j) := fun z => z.elim (nI_pos (by omega)) (by omega)
    have hi2 : ¬ 6 ≤ j := by omega
    have hq := hr j hj
    obtain ⟨q1, q2, q3, q4, q5, n, m1, m2, q6⟩ := hq
    by_cases hh : 0 ≤ p1 ∧ p1 ≤ 999
    · simp only [hh, not_true, not_false_iff, if_true, if_false, and_self, e97 X _ _ j n (by omega) m1 m2 q6]
      by_cases h9 : hg h 82 j + p1 ≤ 9999
      · rw [if_pos h9, rI_i, g252]
        simp only [cI, e168, rI_i, b2i_0, hh, n0, hk, hi2, or_self, if_false, if_true, not_true, not_false_iff, and_self]
        have f1 : ∀ (b i : Nat) x1 x2 x3 x4, b ≠ 82 → b ≠ 83 → b ≠ 84 → b ≠ 85 → hg (sI (sI (sI (sI h 82 j x1) 83 j x2) 84 j x3) 85 j x4) b i = hg h b i := by
          intro b i x1 x2 x3 x4 z1 z2 z3 z4
          rw [hg_ne _ z4, hg_ne _ z3, hg_ne _ z2, hg_ne _ z1]
        simp only [f1 86 71 _ _ _ _ (by decide) (by decide) (by decide) (by decide), f1 132 j _ _ _ _ (by decide) (by decide) (by decide) (by decide), f1 133 j _ _ _ _ (by decide) (by decide) (by decide) (by decide), f1 134 j _ _ _ _ (by decide) (by decide) (by decide) (by decide), e2, n1, if_true, if_false, n0, hi2, or_self, ← q1, ← q2, ← q3, q6, h9]
        have key : ∀ (s w d : Int32), s = wkW h j n → E X 252 82 [some (.ref 86), some (.int (nI j)), some (.int p1), some (.int (hg h 82 j + p1)), some (.int d), none] [.int s] (sI (sI (sI (sI h 82 j (hg h 82 j + p1 - wkD (hg h 82 j + p1) (wkW h j n))) 83 j (nI (nxP n (wkW h j n) (hg h 82 j + p1)))) 84 j (hg h 84 j + 1)) 85 j (hg h 85 j + wkD (hg h 82 j + p1) (wkW h j n))) (fun v2 h2 => some (.int (wkD (hg h 82 j + p1) (wkW h j n))) = v2 ∧ InvT h2 ∧ Wr [0, 11] h h2) := by
          intro s w d es
          subst es
          rw [g252_82]
          have pp : hg (sI (sI (sI (sI h 82 j (hg h 82 j + p1 - wkD (hg h 82 j + p1) (wkW h j n))) 83 j (nI (nxP n (wkW h j n) (hg h 82 j + p1)))) 84 j (hg h 84 j + 1)) 85 j (hg h 85 j + wkD (hg h 82 j + p1) (wkW h j n))) 134 j = nI n := by
            rw [f1 134 j _ _ _ _ (by decide) (by decide) (by decide) (by decide), ← q3, q6]
          simp only [m252 X _ _ j n (by omega) m1 m2 pp]
          have ed : (if hg h 82 j + p1 ≤ wkW h j n then hg h 82 j + p1 else wkW h j n) = wkD (hg h 82 j + p1) (wkW h j n) := rfl
          have fin : ∀ dd, dd = wkD (hg h 82 j + p1) (wkW h j n) → some (Value.int (wkD (hg h 82 j + p1) (wkW h j n))) = some (Value.int dd) ∧ InvT (sI (sI (sI (sI (sI (sI (sI (sI h 82 j (hg h 82 j + p1 - wkD (hg h 82 j + p1) (wkW h j n))) 83 j (nI (nxP n (wkW h j n) (hg h 82 j + p1)))) 84 j (hg h 84 j + 1)) 85 j (hg h 85 j + wkD (hg h 82 j + p1) (wkW h j n))) 134 j (nI (nxP n (wkW h j n) (hg h 82 j + p1)))) 133 j (hg h 82 j + p1 - dd)) 135 j (hg (sI (sI (sI (sI h 82 j (hg h 82 j + p1 - wkD (hg h 82 j + p1) (wkW h j n))) 83 j (nI (nxP n (wkW h j n) (hg h 82 j + p1)))) 84 j (hg h 84 j + 1)) 85 j (hg h 85 j + wkD (hg h 82 j + p1) (wkW h j n))) 135 j + 1)) 136 j (hg (sI (sI (sI (sI h 82 j (hg h 82 j + p1 - wkD (hg h 82 j + p1) (wkW h j n))) 83 j (nI (nxP n (wkW h j n) (hg h 82 j + p1)))) 84 j (hg h 84 j + 1)) 85 j (hg h 85 j + wkD (hg h 82 j + p1) (wkW h j n))) 136 j + dd)) ∧ Wr [0, 11] h (sI (sI (sI (sI (sI (sI (sI (sI h 82 j (hg h 82 j + p1 - wkD (hg h 82 j + p1) (wkW h j n))) 83 j (nI (nxP n (wkW h j n) (hg h 82 j + p1)))) 84 j (hg h 84 j + 1)) 85 j (hg h 85 j + wkD (hg h 82 j + p1) (wkW h j n))) 134 j (nI (nxP n (wkW h j n) (hg h 82 j + p1)))) 133 j (hg h 82 j + p1 - dd)) 135 j (hg (sI (sI (sI (sI h 82 j (hg h 82 j + p1 - wkD (hg h 82 j + p1) (wkW h j n))) 83 j (nI (nxP n (wkW h j n) (hg h 82 j + p1)))) 84 j (hg h 84 j + 1)) 85 j (hg h 85 j + wkD (hg h 82 j + p1) (wkW h j n))) 135 j + 1)) 136 j (hg (sI (sI (sI (sI h 82 j (hg h 82 j + p1 - wkD (hg h 82 j + p1) (wkW h j n))) 83 j (nI (nxP n (wkW h j n) (hg h 82 j + p1)))) 84 j (hg h 84 j + 1)) 85 j (hg h 85 j + wkD (hg h 82 j + p1) (wkW h j n))) 136 j + dd)) := by
            intro dd hd
            rw [f1 135 j _ _ _ _ (by decide) (by decide) (by decide) (by decide), f1 136 j _ _ _ _ (by decide) (by decide) (by decide) (by decide), hd]
            refine ⟨rfl, ⟨c, hc, ?_, ?_, ?_, ?_⟩, ?_⟩
            · simp [hg_sI, e1]
            · simp [hg_sI, e2]
            · intro i hi'
              by_cases hij : i = j
              · subst hij
                have := nxP_r (w := wkW h i n) (a := hg h 82 i + p1) m1 m2
                simp [hg_sI, q1, q4, q5]
                exact ⟨_, this.1, this.2, rfl⟩
              · simpa [hg_sI, hij] using hr i hi'
            · intro i hi'
              have hij : ¬ i = j := by omega
              simpa [hg_sI, hij] using hz i hi'
            · repeat' (first | exact Wr_refl _ _ | (refine Wr_sI ?_ (by exact List.mem_cons_of_mem _ (List.mem_cons_self ..))))
          by_cases hl : hg h 82 j + p1 ≤ wkW h j n
          · rw [if_pos hl]
            exact fin _ (by rw [← ed, if_pos hl])
          · rw [if_neg hl]
            exact fin _ (by rw [← ed, if_neg hl])
        by_cases hw : 0 ≤ hg h 81 j - nI n / 4
        · rw [if_pos hw]
          exact key _ 0 _ (by unfold wkW; rw [if_pos hw])
        · rw [if_neg hw]
          exact key _ 0 _ (by unfold wkW; rw [if_neg hw])
      · rw [if_neg h9, rI_i, g252]
        simp only [cI, e168, rI_i, b2i_0, hh, n0, hk, hi2, or_self, e2, n1, ← q2, h9, if_false, if_true, not_true, not_false_iff, and_self]
        exact ⟨trivial, iv', Wr_refl _ _⟩
    · simp only [hh, not_true, not_false_iff, if_true, if_false, and_self, g252, cI, e168, rI_i, b2i_0, n0, e2, n1]
      exact ⟨trivial, iv', Wr_refl _ _⟩
  · simp only [hp, not_true, not_false_iff, if_true, if_false, and_self, g252, mdl_in, e2]
    exact ⟨trivial, iv', Wr_refl _ _⟩
