/-! many; the state at the loop's head -/
theorem c_many (X : XS) (h : H2) (iv : Inv h) (p0 : Int32) : EC X 160 [.ref 5, .int p0] h (fun v1 h1 => EC X 265 [.ref 86, .int p0] h1 (fun v2 h2 => v1 = v2 ∧ Wr [0] h h2)) := by
  obtain ⟨-, ⟨cl, ad, ls⟩, ⟨cw, ws⟩, ⟨sd, sc, s1, s2, s3, s4, s5, s6, -⟩, ⟨nA, nT, n1, n2, n3, n4, n5, n6, -⟩, ⟨kc, kp, kf, k1, k2, k3, k4, k5, k6, k7, k8, k9, -⟩, ⟨pc, p1, p2, p3, -⟩, ⟨cc, cJ', cm, c1, c2, c3, c4, c5, c6, c7, c8, -⟩, ⟨jn, jp, jq, j1, j2, j3, -⟩, -, ⟨tc, t1, t2, t3, -⟩⟩ := iv
  have e0 : hg h 17 1 = hg h 86 5 := by rw [ls.2.1, ls.2.2.1]
  have e1 : hg h 19 9 = hg h 86 16 := by rw [ws.2.1, ws.2.2.1]
  have e2 : hg h 29 5 = hg h 86 27 := by rw [s5, s6]
  have e3 : hg h 34 7 = hg h 86 31 := by rw [n3, n4]
  have e4 : hg h 34 8 = hg h 86 34 := by rw [n5, n6]
  have e5 : hg h 62 9 = hg h 86 40 := by rw [k4, k5]
  have e6 : hg h 62 10 = hg h 86 43 := by rw [k6, k7]
  have e7 : hg h 62 11 = hg h 86 44 := by rw [k8, k9]
  have e8 : hg h 71 2 = hg h 86 56 := by rw [p2, p3]
  have e9 : hg h 74 7 = hg h 86 61 := by rw [c7, c8]
  have e10 : hg h 80 5 = hg h 86 71 := by rw [t2, t3]
  have e11 : hg h 74 9 = hg h 86 67 := by rw [j2, j3]
  rw [g160]
  by_cases q0 : p0 = 0
  · rw [if_pos q0, g265, if_pos q0, e0]
    exact ⟨rfl, Wr_refl _ _⟩
  rw [if_neg q0]
  by_cases q1 : p0 = 1
  · rw [if_pos q1, g265, if_neg q0, if_pos q1, e1]
    exact ⟨rfl, Wr_refl _ _⟩
  rw [if_neg q1]
  by_cases q2 : p0 = 2
  · rw [if_pos q2, g265, if_neg q0, if_neg q1, if_pos q2, e2]
    exact ⟨rfl, Wr_refl _ _⟩
  rw [if_neg q2]
  by_cases q3 : p0 = 3
  · rw [if_pos q3, g265, if_neg q0, if_neg q1, if_neg q2, if_pos q3, e3]
    exact ⟨rfl, Wr_refl _ _⟩
  rw [if_neg q3]
  by_cases q4 : p0 = 4
  · rw [if_pos q4, g265, if_neg q0, if_neg q1, if_neg q2, if_neg q3, if_pos q4, e4]
    exact ⟨rfl, Wr_refl _ _⟩
  rw [if_neg q4]
  by_cases q5 : p0 = 5
  · rw [if_pos q5, g265, if_neg q0, if_neg q1, if_neg q2, if_neg q3, if_neg q4, if_pos q5, e5]
    exact ⟨rfl, Wr_refl _ _⟩
  rw [if_neg q5]
  by_cases q6 : p0 = 6
  · rw [if_pos q6, g265, if_neg q0, if_neg q1, if_neg q2, if_neg q3, if_neg q4, if_neg q5, if_pos q6, e6]
    exact ⟨rfl, Wr_refl _ _⟩
  rw [if_neg q6]
  by_cases q7 : p0 = 7
  · rw [if_pos q7, g265, if_neg q0, if_neg q1, if_neg q2, if_neg q3, if_neg q4, if_neg q5, if_neg q6, if_pos q7, e7]
    exact ⟨rfl, Wr_refl _ _⟩
  rw [if_neg q7]
  by_cases q8 : p0 = 8
  · rw [if_pos q8, g265, if_neg q0, if_neg q1, if_neg q2, if_neg q3, if_neg q4, if_neg q5, if_neg q6, if_neg q7, if_pos q8, e8]
    exact ⟨rfl, Wr_refl _ _⟩
  rw [if_neg q8]
  by_cases q9 : p0 = 9
  · rw [if_pos q9, g265, if_neg q0, if_neg q1, if_neg q2, if_neg q3, if_neg q4, if_neg q5, if_neg q6, if_neg q7, if_neg q8, if_pos q9, e9]
    exact ⟨rfl, Wr_refl _ _⟩
  rw [if_neg q9]
  by_cases q10 : p0 = 10
  · rw [if_pos q10, g265, if_neg q0, if_neg q1, if_neg q2, if_neg q3, if_neg q4, if_neg q5, if_neg q6, if_neg q7, if_neg q8, if_neg q9, if_pos q10, e10]
    exact ⟨rfl, Wr_refl _ _⟩
  rw [if_neg q10]
  by_cases q11 : p0 = 11
  · rw [if_pos q11, g265, if_neg q0, if_neg q1, if_neg q2, if_neg q3, if_neg q4, if_neg q5, if_neg q6, if_neg q7, if_neg q8, if_neg q9, if_neg q10, if_pos q11, e11]
    exact ⟨rfl, Wr_refl _ _⟩
  rw [if_neg q11]
  rw [g265, if_neg q0, if_neg q1, if_neg q2, if_neg q3, if_neg q4, if_neg q5, if_neg q6, if_neg q7, if_neg q8, if_neg q9, if_neg q10, if_neg q11]
  exact ⟨rfl, Wr_refl _ _⟩
theorem z0 {a : Nat} (j : Nat) (h : a ≠ 12 ∧ a ≠ 87 ∧ a ≠ 74 ∧ a ≠ 86 ∧ a ≠ 5) : hg hh0 a j = 0 := by
  obtain ⟨h1, h2, h3, h4, h5⟩ := h
  show I0 a j = 0
  unfold I0 I0a sU upR
  simp only [h1, h2, h3, h4, h5, if_false]
theorem Inv_0 : Inv hh0 := by
  have no : ∀ {P : Nat → Prop} j, j < 0 → P j := fun j hj => absurd hj (Nat.not_lt_zero _)
  have n0 : (0 : Int32) = nI 0 := by decide
  refine ⟨⟨by decide +kernel, ?_⟩, ⟨0, fun _ => 0, by omega, by decide +kernel, by decide +kernel, no, fun l m _ hm => absurd hm (Nat.not_lt_zero _), Nat.le_refl _, fun a ha i => z0 i ?_⟩, ⟨0, by omega, by decide +kernel, by decide +kernel, no⟩, ⟨0, 0, by omega, by omega, by decide +kernel, by decide +kernel, by decide +kernel, by decide +kernel, no, no⟩, ⟨0, 0, by omega, by omega, by decide +kernel, by decide +kernel, by decide +kernel, by decide +kernel, no, no, fun t _ => z0 t (by decide)⟩, ⟨0, 0, 0, by omega, by omega, by omega, by decide +kernel, by decide +kernel, by decide +kernel, by decide +kernel, by decide +kernel, by decide +kernel, by decide +kernel, no, no⟩, ⟨0, by omega, by decide +kernel, by decide +kernel, no⟩, ⟨0, 1, 300, by omega, by omega, by decide +kernel, by decide +kernel, by decide +kernel, by decide +kernel, by decide +kernel, by decide +kernel, no, ?_, no⟩, ⟨0, fun _ => 0, fun _ => 1, by omega, by decide +kernel, by decide +kernel, no, by decide +kernel, by decide +kernel, by decide +kernel⟩, (by show hg hh0 5 10 = hg hh0 86 70; decide +kernel), ⟨0, by omega, by decide +kernel, by decide +kernel, no, fun j _ => ⟨z0 j (by decide), z0 j (by decide)⟩⟩⟩
  · intro k hk
    have : k = 0 ∨ k = 1 ∨ k = 2 ∨ k = 3 := by omega
    rcases this with rfl | rfl | rfl | rfl <;> exact ⟨Or.inl ⟨by decide +kernel, by decide +kernel⟩, ⟨0, by omega, by decide +kernel, by decide +kernel⟩, fun j _ => (z0 j (by decide)).trans (z0 _ (by decide)).symm⟩
  · have ha' : 137 ≤ a := ha
    omega
  · have := day_inv (c := 0) (J := 1) (len := hg hh0 75) (day := hg hh0 76) (rank := hg hh0 77) (mn := 300) 100 (Nat.le_refl _)
    have e : (hrd hh0 0 1 300).2.2 = 0 := by unfold hrd; omega
    rw [e]
    decide +kernel
