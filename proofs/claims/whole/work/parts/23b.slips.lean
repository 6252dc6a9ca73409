theorem bI (j N : Nat) (hj : j < N) (hN : N < 2 ^ 31) : ¬ (nI j < 0 ∨ N ≤ j) := fun z => z.elim (nI_pos (by omega)) (by omega)
/-- slips of doctor d for day y, counted on both sides -/
def onD (h : H2) (d y : Int32) (k : Nat) : Bool := decide (hg h 31 k = d ∧ hg h 33 k = y)
theorem e93 (X : XS) (h : H2) (Q : Option Value → H2 → Prop) (c : Nat) (hc : c ≤ 40) (ec : hg h 29 5 = nI c) (d y : Int32) :
    EC X 93 [.ref 29, .int d, .int y] h Q ↔ Q (some (.int (nI (cnt (onD h d y) c)))) h := by
  have key : ∀ m k, k + m = c → (E X 93 5 [some (.ref 29), some (.int d), some (.int y), some (.int (nI (cnt (onD h d y) k))), some (.int (nI k))] [] h Q ↔ Q (some (.int (nI (cnt (onD h d y) c)))) h) := by
    intro m
    induction m with
    | zero =>
      intro k hk
      have : k = c := by omega
      subst this
      rw [g93_5, ec, if_pos (nI_le (Nat.le_refl _) (by omega))]
    | succ m ih =>
      intro k hk
      have hkk : (nI k).toNatClampNeg = k := nI_clamp (by omega)
      have := ih (k + 1) (by omega)
      rw [← this, g93_5, ec, if_neg (nI_ge (by omega) (by omega))]
      simp only [hkk, bI k 40 (by omega) (by omega), if_false, nI_1]
      have ee : cnt (onD h d y) (k + 1) = cnt (onD h d y) k + (if onD h d y k = true then 1 else 0) := rfl
      rw [ee]
      by_cases h1 : hg h 31 k = d
      · by_cases h2 : hg h 33 k = y
        · simp only [h1, h2, not_true, if_false]
          have : onD h d y k = true := decide_eq_true ⟨h1, h2⟩
          rw [if_pos this]
        · simp only [h1, h2, not_true, not_false_iff, if_true, if_false]
          have : ¬ onD h d y k = true := fun z => h2 (of_decide_eq_true z).2
          rw [if_neg this]
          rfl
      · simp only [h1, not_false_iff, if_true]
        have : ¬ onD h d y k = true := fun z => h1 (of_decide_eq_true z).1
        rw [if_neg this]
        rfl
  rw [g93]
  exact key c 0 (by omega)
theorem e200 (X : XS) (h : H2) (Q : Option Value → H2 → Prop) (c dd : Nat) (hc : c ≤ 40) (hd : dd < 6) (ec : hg h 86 27 = nI c) (ag : ∀ j, j < c → hg h 31 j = hg h 106 j ∧ hg h 32 j = hg h 107 j ∧ hg h 33 j = hg h 108 j) (y : Int32) :
    EC X 200 [.ref 86, .int (nI dd), .int y] h Q ↔ if nI (cnt (onD h (nI dd) y) c) ≤ 4 * hg h 105 dd then Q (some (.int 0)) h else Q (some (.int 1)) h := by
  have hdk : (nI dd).toNatClampNeg = dd := nI_clamp (by omega)
  have key : ∀ m k, k + m = c → (E X 200 5 [some (.ref 86), some (.int (nI dd)), some (.int y), some (.int (nI (cnt (onD h (nI dd) y) k))), some (.int (nI k))] [] h Q ↔ if nI (cnt (onD h (nI dd) y) c) ≤ 4 * hg h 105 dd then Q (some (.int 0)) h else Q (some (.int 1)) h) := by
    intro m
    induction m with
    | zero =>
      intro k hk
      have : k = c := by omega
      subst this
      rw [g200_5, ec, if_pos (nI_le (Nat.le_refl _) (by omega))]
      simp only [hdk, bI dd 6 hd (by omega), if_false]
    | succ m ih =>
      intro k hk
      have hkk : (nI k).toNatClampNeg = k := nI_clamp (by omega)
      have := ih (k + 1) (by omega)
      have ak := ag k (by omega)
      rw [← this, g200_5, ec, if_neg (nI_ge (by omega) (by omega))]
      simp only [hkk, bI k 40 (by omega) (by omega), if_false, nI_1, ← ak.1, ← ak.2.2, Int32.add_zero]
      have ee : cnt (onD h (nI dd) y) (k + 1) = cnt (onD h (nI dd) y) k + (if onD h (nI dd) y k = true then 1 else 0) := rfl
      rw [ee]
      by_cases h1 : hg h 31 k = nI dd
      · by_cases h2 : hg h 33 k = y
        · simp only [h1, h2, not_true, if_false]
          have : onD h (nI dd) y k = true := decide_eq_true ⟨h1, h2⟩
          rw [if_pos this]
        · simp only [h1, h2, not_true, not_false_iff, if_true, if_false]
          have : ¬ onD h (nI dd) y k = true := fun z => h2 (of_decide_eq_true z).2
          rw [if_neg this]
          rfl
      · simp only [h1, not_false_iff, if_true]
        have : ¬ onD h (nI dd) y k = true := fun z => h1 (of_decide_eq_true z).1
        rw [if_neg this]
        rfl
  rw [g200]
  exact key c 0 (by omega)
