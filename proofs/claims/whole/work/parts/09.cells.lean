/-! cells of the machine and cells of the heap -/
abbrev Gx : Type := Nat × (Nat → Int32) × Nat × Nat × (Nat → Nat) × va_G × ClassId × ClassId × ClassId × ClassId
abbrev gL (G : Gx) : Nat := G.1
abbrev gX (G : Gx) : Nat → Int32 := G.2.1
abbrev gT (G : Gx) : Nat := G.2.2.1
abbrev gB (G : Gx) : Nat := G.2.2.2.1
abbrev gS (G : Gx) : Nat → Nat := G.2.2.2.2.1
abbrev gD (G : Gx) : va_G := G.2.2.2.2.2.1
abbrev gI (G : Gx) : ClassId := G.2.2.2.2.2.2.1
abbrev gZ (G : Gx) : ClassId := G.2.2.2.2.2.2.2.1
abbrev gN (G : Gx) : ClassId := G.2.2.2.2.2.2.2.2.1
abbrev gA (G : Gx) : ClassId := G.2.2.2.2.2.2.2.2.2
abbrev tyL (G : Gx) : List (ClassId × FieldType) := [(gI G, .int), (gZ G, .boolean), (gN G, .object "DryLand$Line"), (gA G, .array .int)]
def phi (G : Gx) (a : Nat) : Nat := if a < 5 then gS G a else gB G + (a - 5)
def phv (G : Gx) (v : Value) : Value := match v with
  | .ref a => .ref (phi G a)
  | v => v
def AA (G : Gx) : Nat → Prop := fun q => gB G ≤ q
def szs (L : Nat) : Nat → Nat
  | 0 => 0
  | n + 1 => szs L n + (shT L n).2
theorem szs_le (L : Nat) {a b : Nat} (h : a ≤ b) : szs L a ≤ szs L b := by
  induction h with
  | refl => exact Nat.le_refl _
  | step _ ih => exact Nat.le_trans ih (Nat.le_add_right _ _)
section CE
variable {S : Type} (rd : S → Nat → Nat → Option Nat)
def fld (G : Gx) (h : Hp S) (c a j : Nat) : Value := match gn (gll ftT c) j with
  | 1 => .long (h.2.2.1 a j)
  | 2 => va_rf ((rd h.2.2.2 a j).map (phi G))
  | _ => .int (h.2.1 a j)
def fds (G : Gx) (h : Hp S) (c a : Nat) : List Value := (List.range (clT c).2.2).map (fld rd G h c a)
def cellE (G : Gx) (h : Hp S) (a : Nat) : va_E := match (shT (gL G) a).1 with
  | 0 => .inl (gI G, (shT (gL G) a).2, .inl (h.2.1 a))
  | 1 => .inl (gZ G, (shT (gL G) a).2, .inl (h.2.1 a))
  | 2 => .inl (gN G, (shT (gL G) a).2, .inr (.inr (.inr (.inr (fun i => (rd h.2.2.2 a i).map (phi G))))))
  | 3 => .inl (gA G, (shT (gL G) a).2, .inr (.inr (.inr (.inr (fun i => (rd h.2.2.2 a i).map (phi G))))))
  | t + 4 => .inr (t, fds rd G h t a)
def wld (G : Gx) (h : Hp S) : va_W := (List.range (h.1 - 5)).map (fun j => (gB G + j, cellE rd G h (j + 5)))
variable {rd}
theorem wld_get {G : Gx} {h : Hp S} {a : Nat} (h5 : 5 ≤ a) (ha : a < h.1) : (wld rd G h)[a - 5]? = some (phi G a, cellE rd G h a) := by
  unfold wld
  rw [List.getElem?_map, List.getElem?_range (by omega)]
  simp only [Option.map_some]
  rw [show a - 5 + 5 = a by omega]
  unfold phi
  rw [if_neg (by omega)]
theorem wld_at {G : Gx} {h : Hp S} {k : Nat} {q : Nat × va_E} (hk : (wld rd G h)[k]? = some q) : k < h.1 - 5 ∧ q = (gB G + k, cellE rd G h (k + 5)) := by
  unfold wld at hk
  rw [List.getElem?_map] at hk
  cases hr : (List.range (h.1 - 5))[k]? with
  | none => rw [hr] at hk; cases hk
  | some j =>
    rw [hr] at hk
    obtain ⟨h1, h2⟩ := List.getElem?_eq_some_iff.mp hr
    simp at h1 h2
    subst h2
    simp only [Option.map_some, Option.some.injEq] at hk
    exact ⟨h1, hk.symm⟩
theorem wld_D (G : Gx) (h : Hp S) : va_D (AA G) (wld rd G h) := by
  refine ⟨fun i j p q hi hj e => ?_, fun k q hk => ?_⟩
  · obtain ⟨-, rfl⟩ := wld_at hi
    obtain ⟨-, rfl⟩ := wld_at hj
    simp only at e
    omega
  · obtain ⟨-, rfl⟩ := wld_at hk
    exact Nat.le_add_right _ _
theorem fld_eq {G : Gx} {h h' : Hp S} {a : Nat} (h1 : h'.2.1 a = h.2.1 a) (h2 : h'.2.2.1 a = h.2.2.1 a) (h3 : ∀ i, rd h'.2.2.2 a i = rd h.2.2.2 a i) (c : Nat) : fld rd G h' c a = fld rd G h c a := by
  funext j
  unfold fld
  rw [h1, h2, h3]
theorem cellE_eq {G : Gx} {h h' : Hp S} {a : Nat} (h1 : h'.2.1 a = h.2.1 a) (h2 : h'.2.2.1 a = h.2.2.1 a) (h3 : ∀ i, rd h'.2.2.2 a i = rd h.2.2.2 a i) : cellE rd G h' a = cellE rd G h a := by
  have e : (fun i => (rd h'.2.2.2 a i).map (phi G)) = (fun i => (rd h.2.2.2 a i).map (phi G)) := funext fun i => by rw [h3]
  unfold cellE fds
  rw [h1, e]
  split
  · rfl
  · rfl
  · rfl
  · rfl
  · rw [fld_eq h1 h2 h3]
theorem wld_set {G : Gx} {h h' : Hp S} {a : Nat} (h5 : 5 ≤ a) (ha : a < h.1) (hn : h'.1 = h.1) (ho : ∀ b, b ≠ a → cellE rd G h' b = cellE rd G h b) : (wld rd G h).set (a - 5) (phi G a, cellE rd G h' a) = wld rd G h' := by
  apply List.ext_getElem?
  intro k
  rw [List.getElem?_set]
  by_cases e : a - 5 = k
  · subst e
    rw [if_pos rfl]
    have hl : a - 5 < (wld rd G h).length := by unfold wld; simp; omega
    rw [if_pos hl, wld_get h5 (by rw [hn]; exact ha)]
  · rw [if_neg e]
    by_cases hk : k < h.1 - 5
    · have g1 := wld_get (rd := rd) (G := G) (h := h) (a := k + 5) (by omega) (by omega)
      have g2 := wld_get (rd := rd) (G := G) (h := h') (a := k + 5) (by omega) (by omega)
      rw [show k + 5 - 5 = k by omega] at g1 g2
      rw [g1, g2, ho (k + 5) (by omega)]
    · have z1 : (wld rd G h)[k]? = none := by unfold wld; rw [List.getElem?_map, List.getElem?_eq_none (by simp; omega)]; rfl
      have z2 : (wld rd G h')[k]? = none := by unfold wld; rw [List.getElem?_map, List.getElem?_eq_none (by simp; omega)]; rfl
      rw [z1, z2]
theorem wld_push {G : Gx} {h : Hp S} {h' : Hp S} (h5 : 5 ≤ h.1) (hn : h'.1 = h.1 + 1) (ho : ∀ b, b < h.1 → cellE rd G h' b = cellE rd G h b) : wld rd G h ++ [(gB G + (h.1 - 5), cellE rd G h' h.1)] = wld rd G h' := by
  unfold wld
  rw [hn, show h.1 + 1 - 5 = (h.1 - 5) + 1 by omega, List.range_succ, List.map_append]
  simp only [List.map_cons, List.map_nil]
  rw [show h.1 - 5 + 5 = h.1 by omega]
  congr 1
  apply List.map_congr_left
  intro j hj
  rw [ho (j + 5) (by have := List.mem_range.mp hj; omega)]
/-- no cell that isn't made yet bears anything -/
def zer (rd : S → Nat → Nat → Option Nat) (h : Hp S) : Prop := ∀ a, h.1 ≤ a → ∀ i, h.2.1 a i = 0 ∧ h.2.2.1 a i = 0 ∧ rd h.2.2.2 a i = none
def RelH (rd : S → Nat → Nat → Option Nat) (G : Gx) (h : Hp S) (H : Heap) : Prop := 5 ≤ h.1 ∧ gT G ≤ h.1 ∧ va_P (gD G) vwCl (wld rd G h) H ∧ zer rd h
end CE
def nestL : List (Nat × Nat × Nat × Nat) := ctab.filter (fun e => Nat.ble 3 e.2.2.2)
noncomputable def nestW (e : Nat × Nat × Nat × Nat) : Cond := .methodLinkNest (own e.1) e.2.1 (yM e.2.2.1) "DryLand"
def AOK (G : Gx) (U : State) : Prop := ∃ kA : Class, U.vm.classes[gA G]? = some kA ∧ kA.kind = .array (gI G) (.array .int)
/-- what is fixed: tables, nest mates, the script and Reader's rows -/
def KU (G : Gx) (U : State) : Prop := va_K (gD G) vwCl (tyL G) U ∧ (∀ e ∈ nestL, va_Nw (nestW e) U) ∧ va_AO "DryLand$Line" U ∧ AOK G U ∧
  (∀ k, k < 5 → va_T .int (gS G k) (shT (gL G) k).2 (fun i => .int (stv (gX G) k i)) (AA G) U U.heap) ∧ ∀ k, 0 < k → k < 5 → va_Z "DryLand$Reader" (statN k) "[I" (.ref (gS G k)) (AA G) U U.heap
theorem okT_at {L θ n a tg : Nat} (h : okT L θ n a tg = true) (hθ : θ ≤ n) : (shT L a).1 = tg ∧ a < n := by
  unfold okT at h
  simp only [Bool.and_eq_true, Bool.or_eq_true] at h
  refine ⟨nbeq h.1, ?_⟩
  rcases h.2 with q | q
  · have := Nat.blt_eq.mp q
    omega
  · exact Nat.blt_eq.mp q
theorem sh5 {L a : Nat} (h : (shT L a).1 ≠ 0) : 5 ≤ a := by
  match a with
  | 0 => exact absurd rfl h
  | 1 => exact absurd rfl h
  | 2 => exact absurd rfl h
  | 3 => exact absurd rfl h
  | 4 => exact absurd rfl h
  | a + 5 => omega
theorem phi5 {G : Gx} {a : Nat} (h : 5 ≤ a) : phi G a = gB G + (a - 5) := if_neg (by omega)
theorem phi_lt {G : Gx} {a : Nat} (h : a < 5) : phi G a = gS G a := if_pos h
