def anyB (f : Nat → Bool) : Nat → Bool
  | 0 => false
  | n + 1 => anyB f n || f n
theorem anyB_iff {f : Nat → Bool} {n : Nat} : anyB f n = true ↔ ∃ j, j < n ∧ f j = true := by
  induction n with
  | zero => exact ⟨fun h => Bool.noConfusion h, fun ⟨j, hj, _⟩ => absurd hj (Nat.not_lt_zero j)⟩
  | succ n ih =>
    have e : anyB f (n + 1) = (anyB f n || f n) := rfl
    rw [e, Bool.or_eq_true, ih]
    constructor
    · rintro (⟨j, hj, hf⟩ | hf)
      · exact ⟨j, by omega, hf⟩
      · exact ⟨n, by omega, hf⟩
    · rintro ⟨j, hj, hf⟩
      by_cases e : j = n
      · subst e; exact Or.inr hf
      · exact Or.inl ⟨j, by omega, hf⟩
def smN (h : H2) (l k : Nat) : Bool := decide (hg h 32 k = hg h 32 l)
def bz (b : Bool) : Int32 := if b = true then 1 else 0
theorem e91 (X : XS) (h : H2) (Q : Option Value → H2 → Prop) (l : Nat) (hl : l < 40) :
    EC X 91 [.ref 29, .int (nI l)] h Q ↔ Q (some (.int (bz (anyB (smN h l) l)))) h := by
  have hlk : (nI l).toNatClampNeg = l := nI_clamp (by omega)
  have key : ∀ m k, k + m = l → anyB (smN h l) k = false → (E X 91 2 [some (.ref 29), some (.int (nI l)), some (.int (nI k))] [] h Q ↔ Q (some (.int (bz (anyB (smN h l) l)))) h) := by
    intro m
    induction m with
    | zero =>
      intro k hk hf
      have : k = l := by omega
      subst this
      rw [g91_2, if_pos (nI_le (Nat.le_refl _) (by omega)), hf]
      exact Iff.rfl
    | succ m ih =>
      intro k hk hf
      have hkk : (nI k).toNatClampNeg = k := nI_clamp (by omega)
      rw [g91_2, if_neg (nI_ge (by omega) (by omega))]
      simp only [hkk, hlk, bI k 40 (by omega) (by omega), bI l 40 (by omega) (by omega), if_false, nI_1]
      by_cases hs : hg h 32 k = hg h 32 l
      · have : anyB (smN h l) l = true := anyB_iff.mpr ⟨k, by omega, decide_eq_true hs⟩
        rw [if_neg (fun z => z hs), this]
        exact Iff.rfl
      · rw [if_pos hs]
        refine ih (k + 1) (by omega) ?_
        have e : anyB (smN h l) (k + 1) = (anyB (smN h l) k || smN h l k) := rfl
        rw [e, hf]
        exact decide_eq_false hs
  rw [g91]
  exact key l 0 (by omega) rfl
theorem e90 (X : XS) (h : H2) (Q : Option Value → H2 → Prop) (c : Nat) (hc : c ≤ 40) (ec : hg h 29 5 = nI c) :
    EC X 90 [.ref 29] h Q ↔ Q (some (.int (nI (cnt (fun l => anyB (smN h l) l) c)))) h := by
  have key : ∀ m k, k + m = c → (E X 90 4 [some (.ref 29), some (.int (nI (cnt (fun l => anyB (smN h l) l) k))), some (.int (nI k))] [] h Q ↔ Q (some (.int (nI (cnt (fun l => anyB (smN h l) l) c)))) h) := by
    intro m
    induction m with
    | zero =>
      intro k hk
      have : k = c := by omega
      subst this
      rw [g90_4, ec, if_pos (nI_le (Nat.le_refl _) (by omega))]
    | succ m ih =>
      intro k hk
      rw [← ih (k + 1) (by omega), g90_4, ec, if_neg (nI_ge (by omega) (by omega))]
      simp only [cI, e91 X _ _ k (by omega), rI_i, nI_1]
      have ee : cnt (fun l => anyB (smN h l) l) (k + 1) = cnt (fun l => anyB (smN h l) l) k + (if anyB (smN h k) k = true then 1 else 0) := rfl
      rw [ee]
      unfold bz
      by_cases hb : anyB (smN h k) k = true
      · rw [if_pos hb, if_neg (by decide), if_pos hb]
      · rw [if_neg hb, if_pos rfl, if_neg hb]
        rfl
  rw [g90]
  exact key c 0 (by omega)
theorem bz_or0 (b : Bool) : bz b ||| 0 = bz b := by cases b <;> decide
theorem bz_or1 (b : Bool) : bz b ||| 1 = 1 := by cases b <;> decide
theorem e199 (X : XS) (h : H2) (Q : Option Value → H2 → Prop) (c : Nat) (hc : c ≤ 40) (ec : hg h 86 27 = nI c) (ag : ∀ j, j < c → hg h 31 j = hg h 106 j ∧ hg h 32 j = hg h 107 j ∧ hg h 33 j = hg h 108 j) :
    EC X 199 [.ref 86] h Q ↔ Q (some (.int (nI (cnt (fun l => anyB (smN h l) l) c)))) h := by
  have inner : ∀ l, l < c → ∀ n : Nat, ∀ m k, k + m = l → (E X 199 17 [some (.ref 86), some (.int (nI n)), some (.int (nI l)), some (.int (bz (anyB (smN h l) k))), some (.int (nI k))] [] h Q ↔ E X 199 4 [some (.ref 86), some (.int (nI (n + (if anyB (smN h l) l = true then 1 else 0)))), some (.int (nI (l + 1))), some (.int (bz (anyB (smN h l) l))), some (.int (nI l))] [] h Q) := by
    intro l hl n m
    have hlk : (nI l).toNatClampNeg = l := nI_clamp (by omega)
    induction m with
    | zero =>
      intro k hk
      have : k = l := by omega
      subst this
      rw [g199_17, if_pos (nI_le (Nat.le_refl _) (by omega))]
      unfold bz
      by_cases hb : anyB (smN h k) k = true
      · rw [if_pos hb, if_neg (by decide), if_pos hb, nI_1, nI_1]
      · rw [if_neg hb, if_pos rfl, if_neg hb, nI_1, Int32.add_zero]
        rfl
    | succ m ih =>
      intro k hk
      have hkk : (nI k).toNatClampNeg = k := nI_clamp (by omega)
      rw [← ih (k + 1) (by omega), g199_17, if_neg (nI_ge (by omega) (by omega))]
      simp only [hkk, hlk, bI k 40 (by omega) (by omega), bI l 40 (by omega) (by omega), if_false, nI_1, ← (ag k (by omega)).2.1, ← (ag l hl).2.1, bz_or0, bz_or1]
      have e : anyB (smN h l) (k + 1) = (anyB (smN h l) k || smN h l k) := rfl
      by_cases hs : hg h 32 k = hg h 32 l
      · have : smN h l k = true := decide_eq_true hs
        rw [if_neg (fun z => z hs), e, this, Bool.or_true]
        exact Iff.rfl
      · have : smN h l k = false := decide_eq_false hs
        rw [if_pos hs, e, this, Bool.or_false]
  have key : ∀ m k, k + m = c → ∀ u3 u4, (E X 199 4 [some (.ref 86), some (.int (nI (cnt (fun l => anyB (smN h l) l) k))), some (.int (nI k)), u3, u4] [] h Q ↔ Q (some (.int (nI (cnt (fun l => anyB (smN h l) l) c)))) h) := by
    intro m
    induction m with
    | zero =>
      intro k hk u3 u4
      have : k = c := by omega
      subst this
      rw [g199_4u, ec, if_pos (nI_le (Nat.le_refl _) (by omega))]
    | succ m ih =>
      intro k hk u3 u4
      rw [g199_4u, ec, if_neg (nI_ge (by omega) (by omega))]
      exact (inner k (by omega) _ k 0 (by omega)).trans (ih (k + 1) (by omega) _ _)
  rw [g199]
  exact key c 0 (by omega) _ _
theorem c_twice (X : XS) (h : H2) (iv : InvS h) : EC X 119 [.ref 5] h (fun v1 h1 => EC X 199 [.ref 86] h1 (fun v2 h2 => v1 = v2 ∧ InvS h2 ∧ Wr [0, 4] h h2)) := by
  have iv' := iv
  obtain ⟨d, c, hd, hc, e1, e2, e3, e4, hr, hz⟩ := iv
  simp only [g119, cI, e90 X _ _ c hc e3, rI_i, e199 X _ _ c hc e4 hz]
  exact ⟨trivial, iv', Wr_refl _ _⟩
