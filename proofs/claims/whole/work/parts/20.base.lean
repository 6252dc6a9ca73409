/-! small words for the mathematics -/
theorem hg_sI (h : H2) (a i : Nat) (x : Int32) (b j : Nat) : hg (sI h a i x) b j = if b = a ∧ j = i then x else hg h b j := by
  unfold hg sI
  show upR h.2.1 a (upd (h.2.1 a) i x) b j = _
  by_cases hb : b = a
  · subst hb
    rw [upR_self]
    unfold upd
    by_cases hj : j = i
    · rw [if_pos hj, if_pos ⟨rfl, hj⟩]
    · rw [if_neg hj, if_neg (fun q => hj q.2)]
  · rw [upR_ne _ _ hb, if_neg (fun q => hb q.1)]
theorem hg_ne (h : H2) {a i : Nat} {x : Int32} {b j : Nat} (hn : b ≠ a) : hg (sI h a i x) b j = hg h b j := by
  rw [hg_sI, if_neg (fun q => hn q.1)]
theorem hg_nj (h : H2) {a i : Nat} {x : Int32} {b j : Nat} (hn : j ≠ i) : hg (sI h a i x) b j = hg h b j := by
  rw [hg_sI, if_neg (fun q => hn q.2)]
theorem hg_eq (h : H2) (a i : Nat) (x : Int32) : hg (sI h a i x) a i = x := by rw [hg_sI, if_pos ⟨rfl, rfl⟩]
theorem sI_1 (h : H2) (a i : Nat) (x : Int32) : (sI h a i x).1 = h.1 := rfl
theorem sI_J (h : H2) (a i : Nat) (x : Int32) : (sI h a i x).2.2.1 = h.2.2.1 := rfl
theorem sI_L (h : H2) (a i : Nat) (x : Int32) : (sI h a i x).2.2.2 = h.2.2.2 := rfl
def b2i (p : Prop) [Decidable p] : Int32 := if p then 1 else 0
theorem b2i_0 {p : Prop} [Decidable p] : b2i p = 0 ↔ ¬ p := by
  unfold b2i
  by_cases h : p
  · rw [if_pos h]
    exact ⟨fun q => absurd q (by decide), fun q => absurd h q⟩
  · rw [if_neg h]
    exact ⟨fun _ => h, fun _ => rfl⟩
theorem b2i_1 {p : Prop} [Decidable p] : b2i p = 1 ↔ p := by
  unfold b2i
  by_cases h : p
  · rw [if_pos h]
    exact ⟨fun _ => h, fun _ => rfl⟩
  · rw [if_neg h]
    exact ⟨fun q => absurd q (by decide), fun q => absurd q h⟩
theorem b01_b2i {p : Prop} [Decidable p] : b01 (b2i p) = true := by
  unfold b2i
  by_cases h : p
  · rw [if_pos h]; decide
  · rw [if_neg h]; decide
theorem rI_i {α : Type} (x : Int32) (n : α) (f : Int32 → α) : rI (some (.int x)) n f = f x := rfl
theorem rJ_i {α : Type} (x : Int64) (n : α) (f : Int64 → α) : rJ (some (.long x)) n f = f x := rfl
theorem rV_n {α : Type} (n f : α) : rV none n f = f := rfl
theorem rO_n {α : Type} (n z : α) (f : Nat → α) : rO (some .null) n z f = z := rfl
theorem rO_r {α : Type} (x : Nat) (n z : α) (f : Nat → α) : rO (some (.ref x)) n z f = f x := rfl
theorem oel_n {α : Type} (z : α) (f : Nat → α) : oel none z f = z := rfl
theorem oel_s' {α : Type} (x : Nat) (z : α) (f : Nat → α) : oel (some x) z f = f x := rfl
theorem i_nlt {a b : Int32} : ¬ a < b ↔ b ≤ a := Int32.not_lt
theorem i_nle {a b : Int32} : ¬ a ≤ b ↔ b < a := Int32.not_le
theorem within_eq {a b c : Int32} {P Q R : Prop} : (if a < b then P else if c < a then P else Q) = (if b ≤ a ∧ a ≤ c then Q else P) := by
  by_cases h1 : a < b
  · rw [if_pos h1, if_neg (fun q => absurd h1 (i_nlt.mpr q.1))]
  · rw [if_neg h1]
    by_cases h2 : c < a
    · rw [if_pos h2, if_neg (fun q => absurd h2 (i_nlt.mpr q.2))]
    · rw [if_neg h2, if_pos ⟨i_nlt.mp h1, i_nlt.mp h2⟩]
/-- both sides' within, isDay, isDeed -/
theorem e161 (X : XS) (h : H2) (Q : Option Value → H2 → Prop) (v a b : Int32) : EC X 161 [.int v, .int a, .int b] h Q ↔ Q (some (.int (b2i (a ≤ v ∧ v ≤ b)))) h := by
  rw [g161]
  unfold b2i
  by_cases h1 : v < a
  · rw [if_pos h1, if_neg (fun q => absurd h1 (i_nlt.mpr q.1))]
  · rw [if_neg h1]
    by_cases h2 : b < v
    · rw [if_pos h2, if_neg (fun q => absurd h2 (i_nlt.mpr q.2))]
    · rw [if_neg h2, if_pos ⟨i_nlt.mp h1, i_nlt.mp h2⟩]
theorem e168 (X : XS) (h : H2) (Q : Option Value → H2 → Prop) (v a b : Int32) : EC X 168 [.int v, .int a, .int b] h Q ↔ Q (some (.int (b2i (a ≤ v ∧ v ≤ b)))) h := by
  rw [g168]
  unfold b2i
  by_cases h1 : v < a
  · rw [if_pos h1, if_neg (fun q => absurd h1 (i_nlt.mpr q.1))]
  · rw [if_neg h1]
    by_cases h2 : b < v
    · rw [if_pos h2, if_neg (fun q => absurd h2 (i_nlt.mpr q.2))]
    · rw [if_neg h2, if_pos ⟨i_nlt.mp h1, i_nlt.mp h2⟩]
def isDy (d : Int32) : Prop := 0 ≤ d ∧ d ≤ 99
theorem e162 (X : XS) (h : H2) (Q : Option Value → H2 → Prop) (d : Int32) : EC X 162 [.int d] h Q ↔ Q (some (.int (b2i (0 ≤ d ∧ d ≤ 99)))) h := by
  rw [g162]
  simp only [cI, e161, rI_i, b01_b2i, cond_true]
theorem e169 (X : XS) (h : H2) (Q : Option Value → H2 → Prop) (d : Int32) : EC X 169 [.int d] h Q ↔ Q (some (.int (b2i (0 ≤ d ∧ d ≤ 99)))) h := by
  rw [g169]
  simp only [cI, e168, rI_i, b01_b2i, cond_true]
/-- an index: one of the first c numbers -/
def inR (v : Int32) (c : Nat) : Prop := ∃ j : Nat, j < c ∧ v = nI j
theorem inR_lt {v : Int32} {c : Nat} (hc : c < 2 ^ 31) : (0 ≤ v ∧ v < nI c) ↔ inR v c := by
  constructor
  · rintro ⟨h0, h1⟩
    obtain ⟨j, hj, rfl⟩ := nI_of (x := v) (i_nlt.mpr h0)
    exact ⟨j, (nI_ltI hj hc).mp h1, rfl⟩
  · rintro ⟨j, hj, rfl⟩
    exact ⟨nI_pos' (by omega), nI_lt hj hc⟩
theorem inR_le {v : Int32} {c : Nat} (hc : c < 2 ^ 31) : (0 ≤ v ∧ v ≤ nI c - 1) ↔ inR v c := by
  cases c with
  | zero =>
    constructor
    · rintro ⟨h0, h1⟩
      have e : nI 0 - 1 = (-1 : Int32) := by decide
      rw [e] at h1
      have := Int32.le_trans h0 h1
      exact absurd this (by decide)
    · rintro ⟨j, hj, -⟩
      omega
  | succ c =>
    rw [nI_pred]
    constructor
    · rintro ⟨h0, h1⟩
      obtain ⟨j, hj, rfl⟩ := nI_of (x := v) (i_nlt.mpr h0)
      exact ⟨j, by have := (nI_leI hj (by omega)).mp h1; omega, rfl⟩
    · rintro ⟨j, hj, rfl⟩
      exact ⟨nI_pos' (by omega), nI_le (by omega) (by omega)⟩
theorem bnd_in {c n : Nat} (h : c < n) (hn : n < 2 ^ 31) : ¬ (nI c < 0 ∨ n ≤ (nI c).toNatClampNeg) := nI_in h hn
