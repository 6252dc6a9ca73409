/-! doctors and slips -/
def InvS (h : H2) : Prop := ∃ d c : Nat, d ≤ 6 ∧ c ≤ 40 ∧ hg h 29 4 = nI d ∧ hg h 86 25 = nI d ∧ hg h 29 5 = nI c ∧ hg h 86 27 = nI c ∧
  (∀ j, j < d → hg h 30 j = hg h 105 j) ∧ (∀ j, j < c → hg h 31 j = hg h 106 j ∧ hg h 32 j = hg h 107 j ∧ hg h 33 j = hg h 108 j)
/-- how many of the first n -/
def cnt (f : Nat → Bool) : Nat → Nat
  | 0 => 0
  | n + 1 => cnt f n + (if f n = true then 1 else 0)
theorem cnt_le (f : Nat → Bool) (n : Nat) : cnt f n ≤ n := by
  induction n with
  | zero => exact Nat.le_refl _
  | succ n ih =>
    unfold cnt
    by_cases h : f n = true
    · rw [if_pos h]; omega
    · rw [if_neg h]; omega
theorem cnt_congr {f g : Nat → Bool} {n : Nat} (h : ∀ j, j < n → f j = g j) : cnt f n = cnt g n := by
  induction n with
  | zero => rfl
  | succ n ih =>
    unfold cnt
    rw [ih (fun j hj => h j (by omega)), h n (by omega)]
theorem c_doctor (X : XS) (h : H2) (iv : InvS h) (p0 : Int32) : EC X 117 [.ref 5, .int p0] h (fun v1 h1 => EC X 197 [.ref 86, .int p0] h1 (fun v2 h2 => v1 = v2 ∧ InvS h2 ∧ Wr [0, 4] h h2)) := by
  simp only [g117, g197, g87, cI, e161, e168, rI_i, b2i_0]
  by_cases hp : 1 ≤ p0 ∧ p0 ≤ 24
  · simp only [hp, not_true, not_false_iff, if_true, if_false, and_self]
    have iv' := iv
    obtain ⟨d, c, hd, hc, e1, e2, e3, e4, hr, hz⟩ := iv
    simp only [e1]
    have e6 : (Int32.ofNat 6) = nI 6 := rfl
    have e6' : (6 : Int32) = nI 6 := by decide
    by_cases h6 : d = 6
    · subst h6
      simp only [e6, e6', e2, not_true, if_false, true_and]
      exact ⟨iv', Wr_refl _ _⟩
    · have n6 : ¬ nI d = nI 6 := by rw [nI_eq (by omega) (by omega)]; exact h6
      have hi : ¬ (nI d < 0 ∨ 6 ≤ d) := fun z => z.elim (nI_pos (by omega)) (by omega)
      have hk : (nI d).toNatClampNeg = d := nI_clamp (by omega)
      have f1 : ∀ x y, hg (sI (sI h 30 d x) 29 4 y) 86 25 = nI d := fun x y => by rw [hg_ne _ (by decide), hg_ne _ (by decide), e2]
      simp only [e6, n6, not_false_iff, if_true, hi, if_false, hk, f1, e6']
      refine ⟨trivial, ⟨d + 1, c, by omega, hc, ?_, ?_, ?_, ?_, ?_, ?_⟩, ?_⟩
      · simp [hg_sI, nI_succ]
      · simp [hg_sI, nI_succ]
      · simp [hg_sI, e3]
      · simp [hg_sI, e4]
      · intro j hj
        by_cases hjc : j = d
        · subst hjc
          simp [hg_sI]
        · have := hr j (by omega)
          simpa [hg_sI, hjc] using this
      · intro j hj
        have := hz j hj
        simpa [hg_sI] using this
      · repeat' (first | exact Wr_refl _ _ | (refine Wr_sI ?_ (by exact List.mem_cons_of_mem _ (List.mem_cons_self ..))))
  · simp only [hp, not_true, not_false_iff, if_true, if_false]
    exact ⟨trivial, iv, Wr_refl _ _⟩
theorem e88 (X : XS) (h : H2) (Q : Option Value → H2 → Prop) (p0 : Int32) : EC X 88 [.ref 29, .int p0] h Q ↔ Q (some (.int (b2i (0 ≤ p0 ∧ p0 ≤ hg h 29 4 - 1)))) h := by
  rw [g88]
  simp only [cI, e161, rI_i, b01_b2i, cond_true]
theorem mdl_b2i {p0 c : Int32} {R : Int32 → Prop} : (if p0 < 0 then R 0 else if c ≤ p0 then R 0 else R 1) = R (b2i (0 ≤ p0 ∧ p0 < c)) := by
  unfold b2i
  by_cases h0 : p0 < 0
  · rw [if_pos h0, if_neg (fun z => absurd h0 (i_nlt.mpr z.1))]
  · rw [if_neg h0]
    by_cases h1 : c ≤ p0
    · rw [if_pos h1, if_neg (fun z => absurd z.2 (Int32.not_lt.mpr h1))]
    · rw [if_neg h1, if_pos ⟨i_nlt.mp h0, Int32.not_le.mp h1⟩]
theorem e196 (X : XS) (h : H2) (Q : Option Value → H2 → Prop) (p0 : Int32) : EC X 196 [.ref 86, .int p0] h Q ↔ Q (some (.int (b2i (0 ≤ p0 ∧ p0 < hg h 86 25)))) h := by
  rw [g196]
  rw [mdl_b2i (R := fun x => Q (some (.int x)) h)]
theorem c_slip (X : XS) (h : H2) (iv : InvS h) (p0 p1 p2 : Int32) : EC X 118 [.ref 5, .int p0, .int p1, .int p2] h (fun v1 h1 => EC X 198 [.ref 86, .int p0, .int p1, .int p2] h1 (fun v2 h2 => v1 = v2 ∧ InvS h2 ∧ Wr [0, 4] h h2)) := by
  have iv' := iv
  obtain ⟨d, c, hd, hc, e1, e2, e3, e4, hr, hz⟩ := iv
  have e40 : (40 : Int32) = nI 40 := by decide
  simp only [g118, g198, g89, cI, e161, e168, e162, e169, e88, e196, rI_i, b2i_0, e1, e2, e3, e4, inR_c (show d < 2 ^ 31 by omega), e40]
  by_cases hp : 0 ≤ p0 ∧ p0 < nI d
  · by_cases hq : 0 ≤ p1 ∧ p1 ≤ 999
    · by_cases ht : 0 ≤ p2 ∧ p2 ≤ 99
      · simp only [hp, hq, ht, not_true, not_false_iff, if_true, if_false, and_self]
        by_cases h6 : c = 40
        · subst h6
          simp only [hp, hq, ht, e2, e4, not_true, not_false_iff, if_true, if_false, and_self, true_and]
          exact ⟨iv', Wr_refl _ _⟩
        · have n6 : ¬ nI c = nI 40 := by rw [nI_eq (by omega) (by omega)]; exact h6
          have hi : ¬ (nI c < 0 ∨ 40 ≤ c) := fun z => z.elim (nI_pos (by omega)) (by omega)
          have hk : (nI c).toNatClampNeg = c := nI_clamp (by omega)
          have f1 : ∀ i x y z w, hg (sI (sI (sI (sI h 31 c x) 32 c y) 33 c z) 29 5 w) 86 i = hg h 86 i := fun i x y z w => by
            rw [hg_ne _ (by decide), hg_ne _ (by decide), hg_ne _ (by decide), hg_ne _ (by decide)]
          simp only [n6, not_true, not_false_iff, if_true, hi, if_false, hk, f1, e2, e4, hp, hq, ht, and_self]
          refine ⟨trivial, ⟨d, c + 1, hd, by omega, ?_, ?_, ?_, ?_, ?_, ?_⟩, ?_⟩
          · simp [hg_sI, e1]
          · simp [hg_sI, e2]
          · simp [hg_sI, nI_succ]
          · simp [hg_sI, nI_succ]
          · intro j hj
            simpa [hg_sI] using hr j hj
          · intro j hj
            by_cases hjc : j = c
            · subst hjc
              simp [hg_sI]
            · simpa [hg_sI, hjc] using hz j (by omega)
          · repeat' (first | exact Wr_refl _ _ | (refine Wr_sI ?_ (by exact List.mem_cons_of_mem _ (List.mem_cons_self ..))))
      · simp only [hp, hq, ht, e2, not_true, not_false_iff, if_true, if_false, and_self]
        exact ⟨trivial, iv', Wr_refl _ _⟩
    · simp only [hp, hq, e2, not_true, not_false_iff, if_true, if_false, and_self]
      exact ⟨trivial, iv', Wr_refl _ _⟩
  · simp only [hp, e2, not_true, not_false_iff, if_true, if_false]
    exact ⟨trivial, iv', Wr_refl _ _⟩
