/-! all components at once -/
def Inv (h : H2) : Prop := InvH h ∧ InvL h ∧ InvW h ∧ InvS h ∧ InvN h ∧ InvK h ∧ InvP h ∧ InvC h ∧ InvJ h ∧ InvM h ∧ InvT h
theorem comp_R {a : Nat} (j : Nat) (h1 : a < 137) (h2 : a ≠ 86 ∧ a ≠ 62 ∧ a ≠ 74 ∧ a ≠ 19) : comp a j = cmR.getD a 0 := by
  have e : ∀ n, a ≠ n → Nat.beq a n = false := fun n hn => by
    cases q : Nat.beq a n with
    | true => exact absurd (Nat.eq_of_beq_eq_true q) hn
    | false => rfl
  unfold comp
  rw [e 86 h2.1, e 62 h2.2.1, e 74 h2.2.2.1, e 19 h2.2.2.2, show Nat.ble 137 a = false from by
    cases q : Nat.ble 137 a with
    | true => have := Nat.ble_eq.mp q; omega
    | false => rfl]
  rfl
theorem cm_H : ∀ a, a < 137 → (a = 12 ∨ a = 13 ∨ a = 87 ∨ a = 88 ∨ a = 89 ∨ (8 ≤ a ∧ a < 12)) → cmR.getD a 0 = 1 := by decide +kernel
theorem cm_N : ∀ a, a < 137 → (a = 34 ∨ (36 ≤ a ∧ a < 45) ∨ (46 ≤ a ∧ a < 62) ∨ (109 ≤ a ∧ a < 115)) → cmR.getD a 0 = 5 := by decide +kernel
theorem cm_C : ∀ a, a < 137 → ((75 ≤ a ∧ a < 80) ∨ (125 ≤ a ∧ a < 128)) → cmR.getD a 0 = 8 := by decide +kernel
theorem cm_K : ∀ a, a < 137 → ((63 ≤ a ∧ a < 69) ∨ (116 ≤ a ∧ a < 122)) → cmR.getD a 0 = 6 := by decide +kernel
theorem kH {s : List Nat} {h g : H2} (iv : InvH h) (hs : 1 ∉ s) (w : Wr s h g) : InvH g := by
  refine InvH_w iv ?_ ?_
  · rw [w.1 6 4 hs, w.1 86 0 hs]; exact iv.1
  · intro a j ha
    exact w.1 a j (by rw [comp_R j (by omega) (by omega), cm_H a (by omega) ha]; exact hs)
theorem kL {s : List Nat} {h g : H2} (iv : InvL h) (hs : 2 ∉ s) (w : Wr s h g) : InvL g := by
  obtain ⟨c, ad, ok⟩ := iv
  exact ⟨c, ad, LsOk_W ok hs w⟩
theorem kW {s : List Nat} {h g : H2} (iv : InvW h) (hs : 3 ∉ s) (w : Wr s h g) : InvW g := by
  obtain ⟨c, ok⟩ := iv
  exact ⟨c, WsOk_W ok hs w⟩
theorem kS {s : List Nat} {h g : H2} (iv : InvS h) (hs : 4 ∉ s) (w : Wr s h g) : InvS g := by
  obtain ⟨d, c, h1, h2, a1, a2, a3, a4, b1, b2⟩ := iv
  refine ⟨d, c, h1, h2, (w.1 29 4 hs).trans a1, (w.1 86 25 hs).trans a2, (w.1 29 5 hs).trans a3, (w.1 86 27 hs).trans a4, ?_, ?_⟩
  · intro j hj
    rw [w.1 30 j hs, w.1 105 j hs]; exact b1 j hj
  · intro j hj
    rw [w.1 31 j hs, w.1 106 j hs, w.1 32 j hs, w.1 107 j hs, w.1 33 j hs, w.1 108 j hs]; exact b2 j hj
theorem kN {s : List Nat} {h g : H2} (iv : InvN h) (hs : 5 ∉ s) (w : Wr s h g) : InvN g := by
  refine InvN_w iv ?_
  intro a j ha
  by_cases e : a = 86
  · subst e
    have : j = 31 ∨ j = 34 := by omega
    rcases this with rfl | rfl <;> exact w.1 _ _ hs
  · exact w.1 a j (by rw [comp_R j (by omega) (by omega), cm_N a (by omega) (by omega)]; exact hs)
theorem kK {s : List Nat} {h g : H2} (iv : InvK h) (hs : 6 ∉ s) (w : Wr s h g) : InvK g := by
  obtain ⟨cc, pp, ff, ok⟩ := iv
  refine ⟨cc, pp, ff, KsOk_w ok ?_ ?_⟩
  · intro a j ha
    by_cases e : a = 86
    · subst e
      have : j = 40 ∨ j = 43 ∨ j = 44 := by omega
      rcases this with rfl | rfl | rfl <;> exact w.1 _ _ hs
    · by_cases e2 : a = 62
      · subst e2
        have : j = 9 ∨ j = 10 ∨ j = 11 := by omega
        rcases this with rfl | rfl | rfl <;> exact w.1 _ _ hs
      · exact w.1 a j (by rw [comp_R j (by omega) (by omega), cm_K a (by omega) (by omega)]; exact hs)
  · rw [w.1 62 12 hs, w.1 86 1 hs]; exact ok.2.2.2.2.2.2.2.2.2.1
theorem kP {s : List Nat} {h g : H2} (iv : InvP h) (hs : 7 ∉ s) (w : Wr s h g) : InvP g := by
  obtain ⟨c, h1, a1, a2, b⟩ := iv
  refine ⟨c, h1, (w.1 71 2 hs).trans a1, (w.1 86 56 hs).trans a2, ?_⟩
  intro j hj
  rw [w.1 72 j hs, w.1 123 j hs, w.1 73 j hs, w.1 124 j hs]; exact b j hj
theorem kC {s : List Nat} {h g : H2} (iv : InvC h) (hs : 8 ∉ s) (w : Wr s h g) : InvC g := by
  obtain ⟨c, J, mn, ok⟩ := iv
  refine ⟨c, J, mn, InvC_w ok ?_⟩
  intro a j ha
  by_cases e : a = 86
  · subst e
    have : j = 59 ∨ j = 60 ∨ j = 61 := by omega
    rcases this with rfl | rfl | rfl <;> exact w.1 _ _ hs
  · by_cases e2 : a = 74
    · subst e2
      have : j = 5 ∨ j = 6 ∨ j = 7 ∨ j = 8 := by omega
      rcases this with rfl | rfl | rfl | rfl <;> exact w.1 _ _ hs
    · exact w.1 a j (by rw [comp_R j (by omega) (by omega), cm_C a (by omega) (by omega)]; exact hs)
theorem kJ {s : List Nat} {h g : H2} (iv : InvJ h) (hs : 9 ∉ s) (w : Wr s h g) : InvJ g := by
  obtain ⟨n, p, q, h1, a1, a2, b, d1, d2, d3⟩ := iv
  refine ⟨n, p, q, h1, (w.1 74 9 hs).trans a1, (w.1 86 67 hs).trans a2, ?_, (w.2.1 hs _ _).trans d1, (w.2.1 hs _ _).trans d2, (w.2.1 hs _ _).trans d3⟩
  intro j hj
  rw [w.1 130 j hs, w.1 131 j hs]; exact b j hj
theorem kM {s : List Nat} {h g : H2} (iv : InvM h) (hs : 10 ∉ s) (w : Wr s h g) : InvM g := by
  unfold InvM at iv ⊢
  rw [w.1 5 10 hs, w.1 86 70 hs]; exact iv
theorem kT {s : List Nat} {h g : H2} (iv : InvT h) (hs : 11 ∉ s) (w : Wr s h g) : InvT g := by
  obtain ⟨c, h1, a1, a2, b, z⟩ := iv
  refine ⟨c, h1, (w.1 80 5 hs).trans a1, (w.1 86 71 hs).trans a2, ?_, ?_⟩
  · intro j hj
    rw [w.1 81 j hs, w.1 132 j hs, w.1 82 j hs, w.1 133 j hs, w.1 83 j hs, w.1 134 j hs, w.1 84 j hs, w.1 135 j hs, w.1 85 j hs, w.1 136 j hs]; exact b j hj
  · intro j hj
    rw [w.1 84 j hs, w.1 85 j hs]; exact z j hj
theorem Inv_W {s : List Nat} {h g : H2} (iv : Inv h) (w : Wr s h g) (a1 : 1 ∈ s → InvH g) (a2 : 2 ∈ s → InvL g) (a3 : 3 ∈ s → InvW g) (a4 : 4 ∈ s → InvS g) (a5 : 5 ∈ s → InvN g) (a6 : 6 ∈ s → InvK g) (a7 : 7 ∈ s → InvP g) (a8 : 8 ∈ s → InvC g) (a9 : 9 ∈ s → InvJ g) (a10 : 10 ∈ s → InvM g) (a11 : 11 ∈ s → InvT g) : Inv g := by
  obtain ⟨i1, i2, i3, i4, i5, i6, i7, i8, i9, i10, i11⟩ := iv
  refine ⟨?_, ?_, ?_, ?_, ?_, ?_, ?_, ?_, ?_, ?_, ?_⟩
  · by_cases z : 1 ∈ s
    · exact a1 z
    · exact kH i1 z w
  · by_cases z : 2 ∈ s
    · exact a2 z
    · exact kL i2 z w
  · by_cases z : 3 ∈ s
    · exact a3 z
    · exact kW i3 z w
  · by_cases z : 4 ∈ s
    · exact a4 z
    · exact kS i4 z w
  · by_cases z : 5 ∈ s
    · exact a5 z
    · exact kN i5 z w
  · by_cases z : 6 ∈ s
    · exact a6 z
    · exact kK i6 z w
  · by_cases z : 7 ∈ s
    · exact a7 z
    · exact kP i7 z w
  · by_cases z : 8 ∈ s
    · exact a8 z
    · exact kC i8 z w
  · by_cases z : 9 ∈ s
    · exact a9 z
    · exact kJ i9 z w
  · by_cases z : 10 ∈ s
    · exact a10 z
    · exact kM i10 z w
  · by_cases z : 11 ∈ s
    · exact a11 z
    · exact kT i11 z w
