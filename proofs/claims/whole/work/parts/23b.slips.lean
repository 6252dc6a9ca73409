theorem bI (j N : Nat) (hj : j < N) (hN : N < 2 ^ 31) : ¬ (nI j < 0 ∨ N ≤ j) := fun z => z.elim (nI_pos (by omega)) (by omega)
/-- slips of doctor d for day y, counted on both sides -/
def onD (h : H2) (d y : Int32) (k : Nat) : Bool := decide (hg h 31 k = d ∧ hg h 33 k = y)
theorem e93 (X : XS) (h : H2) (Q : Option Value → H2 → Prop) (c : Nat) (hc : c ≤ 40) (ec : hg h 29 5 = nI c) (d y : Int32) :
    EC X 93 [.ref 29, .int d, .int y] h Q ↔ Q (some (.int (nI (cnt (onD h d y) c)))) h := by
  have key : ∀ m k, k + m = c → (E X 93 5 [some (.ref 29), some (.int d), some (.int y), some (.int (nI (cnt (onD h d y) k))), some (.int (nI k))] [] h Q ↔ Q (some (.int (nI (cnt (onD h d y) c)))) h) := by
    intro m
    induction m with
    | zero =>
      intro k hk
      have : k = c := by omega
      subst this
      rw [g93_5, ec, if_pos (nI_le (Nat.le_refl _) (by omega))]
    | succ m ih =>
      intro k hk
      have hkk : (nI k).toNatClampNeg = k := nI_clamp (by omega)
      have := ih (k + 1) (by omega)
      rw [← this, g93_5, ec, if_neg (nI_ge (by omega) (by omega))]
      simp only [hkk, bI k 40 (by omega) (by omega), if_false, nI_1]
      have ee : cnt (onD h d y) (k + 1) = cnt (onD h d y) k + (if onD h d y k = true then 1 else 0) := rfl
      rw [ee]
      by_cases h1 : hg h 31 k = d
      · by_cases h2 : hg h 33 k = y
        · simp only [h1, h2, not_true, if_false]
          have : onD h d y k = true := decide_eq_true ⟨h1, h2⟩
          rw [if_pos this]
        · simp only [h1, h2, not_true, not_false_iff, if_true, if_false]
          have : ¬ onD h d y k = true := fun z => h2 (of_decide_eq_true z).2
          rw [if_neg this]
          rfl
      · simp only [h1, not_false_iff, if_true]
        have : ¬ onD h d y k = true := fun z => h1 (of_decide_eq_true z).1
        rw [if_neg this]
        rfl
  rw [g93]
  exact key c 0 (by omega)
theorem e200 (X : XS) (h : H2) (Q : Option Value → H2 → Prop) (c dd : Nat) (hc : c ≤ 40) (hd : dd < 6) (ec : hg h 86 27 = nI c) (ag : ∀ j, j < c → hg h 31 j = hg h 106 j ∧ hg h 32 j = hg h 107 j ∧ hg h 33 j = hg h 108 j) (y : Int32) :
    EC X 200 [.ref 86, .int (nI dd), .int y] h Q ↔ if nI (cnt (onD h (nI dd) y) c) ≤ 4 * hg h 105 dd then Q (some (.int 0)) h else Q (some (.int 1)) h := by
  have hdk : (nI dd).toNatClampNeg = dd := nI_clamp (by omega)
  have key : ∀ m k, k + m = c → (E X 200 5 [some (.ref 86), some (.int (nI dd)), some (.int y), some (.int (nI (cnt (onD h (nI dd) y) k))), some (.int (nI k))] [] h Q ↔ if nI (cnt (onD h (nI dd) y) c) ≤ 4 * hg h 105 dd then Q (some (.int 0)) h else Q (some (.int 1)) h) := by
    intro m
    induction m with
    | zero =>
      intro k hk
      have : k = c := by omega
      subst this
      rw [g200_5, ec, if_pos (nI_le (Nat.le_refl _) (by omega))]
      simp only [hdk, bI dd 6 hd (by omega), if_false]
    | succ m ih =>
      intro k hk
      have hkk : (nI k).toNatClampNeg = k := nI_clamp (by omega)
      have := ih (k + 1) (by omega)
      have ak := ag k (by omega)
      rw [← this, g200_5, ec, if_neg (nI_ge (by omega) (by omega))]
      simp only [hkk, bI k 40 (by omega) (by omega), if_false, nI_1, ← ak.1, ← ak.2.2, Int32.add_zero]
      have ee : cnt (onD h (nI dd) y) (k + 1) = cnt (onD h (nI dd) y) k + (if onD h (nI dd) y k = true then 1 else 0) := rfl
      rw [ee]
      by_cases h1 : hg h 31 k = nI dd
      · by_cases h2 : hg h 33 k = y
        · simp only [h1, h2, not_true, if_false]
          have : onD h (nI dd) y k = true := decide_eq_true ⟨h1, h2⟩
          rw [if_pos this]
        · simp only [h1, h2, not_true, not_false_iff, if_true, if_false]
          have : ¬ onD h (nI dd) y k = true := fun z => h2 (of_decide_eq_true z).2
          rw [if_neg this]
          rfl
      · simp only [h1, not_false_iff, if_true]
        have : ¬ onD h (nI dd) y k = true := fun z => h1 (of_decide_eq_true z).1
        rw [if_neg this]
        rfl
  rw [g200]
  exact key c 0 (by omega)
def tmF (bad : Nat → Bool) (p : Int32) : Nat → Nat → Nat → Int32
  | 0, _, n => if ¬ p = -1 then -1 else nI n
  | m + 1, k, n => if bad k = true then (if ¬ nI n = p then tmF bad p m (k + 1) (n + 1) else nI k) else tmF bad p m (k + 1) n
def badD (h : H2) (c dd : Nat) (k : Nat) : Bool := decide (¬ nI (cnt (onD h (nI dd) (nI k)) c) ≤ 4 * hg h 30 dd)
theorem e92 (X : XS) (h : H2) (Q : Option Value → H2 → Prop) (c dd : Nat) (hc : c ≤ 40) (hd : dd < 6) (ec : hg h 29 5 = nI c) (p : Int32) :
    EC X 92 [.ref 29, .int (nI dd), .int p] h Q ↔ Q (some (.int (tmF (badD h c dd) p 100 0 0))) h := by
  have hdk : (nI dd).toNatClampNeg = dd := nI_clamp (by omega)
  have e100 : (100 : Int32) = nI 100 := by decide
  have key : ∀ m k n, k + m = 100 → (E X 92 5 [some (.ref 29), some (.int (nI dd)), some (.int p), some (.int (nI n)), some (.int (nI k))] [] h Q ↔ Q (some (.int (tmF (badD h c dd) p m k n))) h) := by
    intro m
    induction m with
    | zero =>
      intro k n hk
      have : k = 100 := by omega
      subst this
      rw [g92_5, e100, if_pos (nI_le (Nat.le_refl _) (by omega))]
      unfold tmF
      by_cases hp : p = -1
      · rw [if_neg (fun z => z hp), if_neg (fun z => z hp)]
      · rw [if_pos hp, if_pos hp]
    | succ m ih =>
      intro k n hk
      rw [g92_5, e100, if_neg (nI_ge (by omega) (by omega))]
      simp only [cI, e93 X _ _ c hc ec, rI_i, hdk, bI dd 6 hd (by omega), if_false, nI_1, ih (k + 1) _ (by omega)]
      have ee : tmF (badD h c dd) p (m + 1) k n = if badD h c dd k = true then (if ¬ nI n = p then tmF (badD h c dd) p m (k + 1) (n + 1) else nI k) else tmF (badD h c dd) p m (k + 1) n := rfl
      rw [ee]
      by_cases hb : nI (cnt (onD h (nI dd) (nI k)) c) ≤ 4 * hg h 30 dd
      · have : ¬ badD h c dd k = true := fun z => (of_decide_eq_true z) hb
        rw [if_pos hb, if_neg this]
      · have : badD h c dd k = true := decide_eq_true hb
        rw [if_neg hb, if_pos this]
        by_cases hn : nI n = p
        · rw [if_neg (fun z => z hn), if_neg (fun z => z hn)]
        · rw [if_pos hn, if_pos hn]
  rw [g92]
  exact key 100 0 0 (by omega)
theorem e201 (X : XS) (h : H2) (Q : Option Value → H2 → Prop) (c dd : Nat) (hc : c ≤ 40) (hd : dd < 6) (ec : hg h 86 27 = nI c) (ag : ∀ j, j < c → hg h 31 j = hg h 106 j ∧ hg h 32 j = hg h 107 j ∧ hg h 33 j = hg h 108 j) (a5 : hg h 30 dd = hg h 105 dd) (p : Int32) :
    E X 201 20 [some (.ref 86), some (.int (nI dd)), some (.int p), some (.int 0), some (.int 0)] [] h Q ↔ Q (some (.int (tmF (badD h c dd) p 100 0 0))) h := by
  have e99 : (99 : Int32) = nI 99 := by decide
  have key : ∀ m k n, k + m = 100 → (E X 201 20 [some (.ref 86), some (.int (nI dd)), some (.int p), some (.int (nI n)), some (.int (nI k))] [] h Q ↔ Q (some (.int (tmF (badD h c dd) p m k n))) h) := by
    intro m
    induction m with
    | zero =>
      intro k n hk
      have : k = 100 := by omega
      subst this
      rw [g201_20, e99, if_pos (nI_lt (by omega) (by omega))]
      unfold tmF
      by_cases hp : p = -1
      · rw [if_neg (fun z => z hp), if_neg (fun z => z hp)]
      · rw [if_pos hp, if_pos hp]
    | succ m ih =>
      intro k n hk
      rw [g201_20, e99, if_neg (nI_nlt (by omega) (by omega))]
      simp only [cI, e200 X _ _ c dd hc hd ec ag, rI_i, nI_1, ih (k + 1) _ (by omega), ← a5]
      have ee : tmF (badD h c dd) p (m + 1) k n = if badD h c dd k = true then (if ¬ nI n = p then tmF (badD h c dd) p m (k + 1) (n + 1) else nI k) else tmF (badD h c dd) p m (k + 1) n := rfl
      rw [ee]
      by_cases hb : nI (cnt (onD h (nI dd) (nI k)) c) ≤ 4 * hg h 30 dd
      · have : ¬ badD h c dd k = true := fun z => (of_decide_eq_true z) hb
        rw [if_pos hb, if_neg this, if_pos trivial]
      · have : badD h c dd k = true := decide_eq_true hb
        rw [if_neg hb, if_pos this, if_neg (by decide)]
        by_cases hn : nI n = p
        · rw [if_neg (fun z => z hn), if_neg (fun z => z hn)]
        · rw [if_pos hn, if_pos hn]
  exact key 100 0 0 (by omega)
theorem tmF_low (bad : Nat → Bool) (p : Int32) (hp : p < -1) : ∀ m k n, n + m ≤ 100 → tmF bad p m k n = -1 := by
  intro m
  have h1 : ¬ p = -1 := fun z => by rw [z] at hp; exact absurd hp (by decide)
  induction m with
  | zero =>
    intro k n hn
    unfold tmF
    rw [if_pos h1]
  | succ m ih =>
    intro k n hn
    have h2 : ¬ nI n = p := fun z => by
      rw [← z] at hp
      have a := nI_pos' (n := n) (by omega)
      have b := Int32.lt_of_le_of_lt a hp
      exact absurd b (by decide)
    unfold tmF
    rw [if_pos h2, ih (k + 1) (n + 1) (by omega), ih (k + 1) n (by omega)]
    exact ite_self _
theorem c_tooMany (X : XS) (h : H2) (iv : InvS h) (p0 p1 : Int32) : EC X 120 [.ref 5, .int p0, .int p1] h (fun v1 h1 => EC X 201 [.ref 86, .int p0, .int p1] h1 (fun v2 h2 => v1 = v2 ∧ InvS h2 ∧ Wr [0, 4] h h2)) := by
  have iv' := iv
  obtain ⟨d, c, hd, hc, e1, e2, e3, e4, hr, hz⟩ := iv
  simp only [g120, g201, cI, e88, e196, rI_i, b2i_0, e1, e2, inR_c (show d < 2 ^ 31 by omega)]
  by_cases hp : 0 ≤ p0 ∧ p0 < nI d
  · obtain ⟨j, hj, rfl⟩ := (inR_lt (show d < 2 ^ 31 by omega)).mp hp
    simp only [hp, not_true, if_false, and_self, e92 X _ _ c j hc (by omega) e3, rI_i, e2, e201 X _ _ c j hc (by omega) e4 hz (hr j hj)]
    by_cases hl : -1 ≤ p1
    · rw [if_pos hl]
      exact ⟨trivial, iv', Wr_refl _ _⟩
    · rw [if_neg hl, tmF_low _ _ (Int32.not_le.mp hl) _ _ _ (by omega)]
      exact ⟨rfl, iv', Wr_refl _ _⟩
  · simp only [hp, not_false_iff, if_true, e2]
    exact ⟨trivial, iv', Wr_refl _ _⟩
