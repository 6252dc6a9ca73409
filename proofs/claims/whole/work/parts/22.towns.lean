/-! towns and miles -/
def InvT (h : H2) : Prop := ∃ c : Nat, c ≤ 6 ∧ hg h 80 5 = nI c ∧ hg h 86 71 = nI c ∧
  (∀ j, j < c → hg h 81 j = hg h 132 j ∧ hg h 82 j = hg h 133 j ∧ hg h 83 j = hg h 134 j ∧ hg h 84 j = hg h 135 j ∧ hg h 85 j = hg h 136 j ∧ ∃ n, 1 ≤ n ∧ n ≤ 99 ∧ hg h 83 j = nI n) ∧
  (∀ j, c ≤ j → hg h 84 j = 0 ∧ hg h 85 j = 0)
def InvM (h : H2) : Prop := hg h 5 10 = hg h 86 70
theorem c_miles (X : XS) (h : H2) (iv : InvM h) (p0 : Int32) : EC X 146 [.ref 5, .int p0] h (fun v1 h1 => EC X 248 [.ref 86, .int p0] h1 (fun v2 h2 => v1 = v2 ∧ InvM h2 ∧ Wr [0, 10] h h2)) := by
  unfold InvM at iv ⊢
  simp only [g146, g248, cI, e161, e168, rI_i, b2i_0]
  by_cases hp : 1 ≤ p0 ∧ p0 ≤ 30
  · simp only [hp, not_true, not_false_iff, if_true, and_self]
    simp only [hg_sI]
    refine ⟨by simp [iv], by simp, ?_⟩
    exact Wr_sI (Wr_sI (Wr_refl _ _) (by decide)) (by decide)
  · simp only [hp, not_true, not_false_iff, if_false, if_true]
    exact ⟨trivial, iv, Wr_refl _ _⟩
theorem c_town (X : XS) (h : H2) (iv : InvT h) (p0 p1 : Int32) : EC X 148 [.ref 5, .int p0, .int p1] h (fun v1 h1 => EC X 251 [.ref 86, .int p0, .int p1] h1 (fun v2 h2 => v1 = v2 ∧ InvT h2 ∧ Wr [0, 11] h h2)) := by
  simp only [g148, g251, g95, cI, e161, e168, rI_i, b2i_0]
  by_cases hp : 0 ≤ p0 ∧ p0 ≤ 99
  · by_cases hq : 0 ≤ p1 ∧ p1 ≤ 999
    · simp only [hp, hq, not_true, not_false_iff, if_true, if_false, and_self]
      have iv' := iv
      obtain ⟨c, hc, e1, e2, hr, hz⟩ := iv
      simp only [e1]
      by_cases h6 : c = 6
      · subst h6
        have e6 : nI 6 = 6 := by decide
        simp only [e6, e2, not_true, if_false, true_and]
        exact ⟨iv', Wr_refl _ _⟩
      · have n6 : ¬ nI c = 6 := by
          have e6 : (6 : Int32) = nI 6 := by decide
          rw [e6, nI_eq (by omega) (by omega)]
          exact h6
        have hcl : c < 6 := by omega
        have hi : ¬ (nI c < 0 ∨ 6 ≤ c) := fun z => z.elim (nI_pos (by omega)) (by omega)
        have hk : (nI c).toNatClampNeg = c := nI_clamp (by omega)
        simp only [n6, not_false_iff, if_true, hi, if_false, hk, hg_sI]
        simp only [show (86 : Nat) ≠ 80 from by decide, show (86 : Nat) ≠ 81 from by decide, show (86 : Nat) ≠ 82 from by decide, show (86 : Nat) ≠ 83 from by decide, false_and, if_false, e2, n6, not_false_iff, if_true, hi, hk]
        refine ⟨trivial, ⟨c + 1, by omega, ?_, ?_, ?_, ?_⟩, ?_⟩
        · simp [hg_sI, nI_succ]
        · simp [hg_sI, nI_succ]
        · intro j hj
          by_cases hjc : j = c
          · subst hjc
            simp [hg_sI, hz j (Nat.le_refl _)]
            exact ⟨10, by omega, by omega, by decide⟩
          · have := hr j (by omega)
            simpa [hg_sI, hjc] using this
        · intro j hj
          have := hz j (by omega)
          have hjc : ¬ j = c := by omega
          simpa [hg_sI, hjc] using this
        · repeat' (first | exact Wr_refl _ _ | (refine Wr_sI ?_ (by first | decide | exact List.mem_cons_of_mem _ (List.mem_cons_self ..))))
    · simp only [hp, hq, not_true, not_false_iff, if_true, if_false, and_self]
      exact ⟨trivial, iv, Wr_refl _ _⟩
  · simp only [hp, not_true, not_false_iff, if_true, if_false, and_self]
    exact ⟨trivial, iv, Wr_refl _ _⟩
theorem inT {p0 : Int32} {c : Nat} (hc : c ≤ 6) (h0 : ¬ p0 < 0) (h1 : p0 < nI c) : ∃ j, j < c ∧ p0 = nI j := by
  have := (inR_lt (v := p0) (c := c) (by omega)).mp ⟨i_nlt.mp h0, h1⟩
  exact this
theorem e96 (X : XS) (h : H2) (Q : Option Value → H2 → Prop) (p0 : Int32) : EC X 96 [.ref 80, .int p0] h Q ↔ Q (some (.int (b2i (0 ≤ p0 ∧ p0 ≤ hg h 80 5 - 1)))) h := by
  rw [g96]
  simp only [cI, e161, rI_i, b01_b2i, cond_true]
theorem mdl_in {p0 c : Int32} {P R : Prop} : (if p0 < 0 then R else if p0 < c then P else R) = (if 0 ≤ p0 ∧ p0 < c then P else R) := by
  by_cases h0 : p0 < 0
  · rw [if_pos h0, if_neg (fun z => absurd h0 (i_nlt.mpr z.1))]
  · rw [if_neg h0]
    by_cases h1 : p0 < c
    · rw [if_pos h1, if_pos ⟨i_nlt.mp h0, h1⟩]
    · rw [if_neg h1, if_neg (fun z => h1 z.2)]
theorem inR_c {v : Int32} {c : Nat} (hc : c < 2 ^ 31) : (0 ≤ v ∧ v ≤ nI c - 1) ↔ (0 ≤ v ∧ v < nI c) := (inR_le hc).trans (inR_lt hc).symm
theorem c_ofTown (X : XS) (h : H2) (iv : InvT h) (p0 p1 : Int32) : EC X 150 [.ref 5, .int p0, .int p1] h (fun v1 h1 => EC X 253 [.ref 86, .int p0, .int p1] h1 (fun v2 h2 => v1 = v2 ∧ InvT h2 ∧ Wr [0, 11] h h2)) := by
  have iv' := iv
  obtain ⟨c, hc, e1, e2, hr, hz⟩ := iv
  simp only [g150, g253, cI, e96, rI_i, b2i_0, e1, e2, mdl_in, inR_c (show c < 2 ^ 31 by omega)]
  by_cases hp : 0 ≤ p0 ∧ p0 < nI c
  · simp only [hp, not_true, not_false_iff, if_true, and_self]
    obtain ⟨j, hj, rfl⟩ := (inR_lt (show c < 2 ^ 31 by omega)).mp hp
    have hk : (nI j).toNatClampNeg = j := nI_clamp (by omega)
    have hi : ¬ (nI j < 0 ∨ 6 ≤ j) := fun z => z.elim (nI_pos (by omega)) (by omega)
    have hq := hr j hj
    simp only [hk, hi, if_false, hq.1, hq.2.1, hq.2.2.1, hq.2.2.2.1, hq.2.2.2.2.1]
    by_cases q0 : p1 = 0
    · simp only [q0, if_true]; exact ⟨trivial, iv', Wr_refl _ _⟩
    by_cases q1 : p1 = 1
    · simp only [q0, q1, if_true, if_false]; exact ⟨trivial, iv', Wr_refl _ _⟩
    by_cases q2 : p1 = 2
    · simp only [q0, q1, q2, if_true, if_false]; exact ⟨trivial, iv', Wr_refl _ _⟩
    by_cases q3 : p1 = 3
    · simp only [q0, q1, q2, q3, if_true, if_false]; exact ⟨trivial, iv', Wr_refl _ _⟩
    by_cases q4 : p1 = 4
    · simp only [q0, q1, q2, q3, q4, if_true, if_false]; exact ⟨trivial, iv', Wr_refl _ _⟩
    simp only [q0, q1, q2, q3, q4, if_true, if_false]; exact ⟨trivial, iv', Wr_refl _ _⟩
  · simp only [hp, not_true, not_false_iff, if_true, if_false]
    exact ⟨trivial, iv', Wr_refl _ _⟩
