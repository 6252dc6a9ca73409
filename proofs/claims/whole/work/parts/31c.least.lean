/-! least: two ways of measuring -/
/-- within n steps of place 11 -/
def Rb (e : Nat → Nat → Prop) : Nat → Nat → Prop
  | 0, v => v = 11
  | n + 1, v => Rb e n v ∨ ∃ w, e v w ∧ Rb e n w
theorem Rb_le {e : Nat → Nat → Prop} {n m v : Nat} (hn : n ≤ m) (r : Rb e n v) : Rb e m v := by
  induction m with
  | zero => obtain rfl : n = 0 := by omega
            exact r
  | succ m ih =>
    by_cases q : n = m + 1
    · subst q; exact r
    · exact Or.inl (ih (by omega))
def Ds (e : Nat → Nat → Prop) (n v : Nat) : Prop := Rb e n v ∧ ∀ k, k < n → ¬ Rb e k v
theorem Ds_uq {e : Nat → Nat → Prop} {n m v : Nat} (a : Ds e n v) (b : Ds e m v) : n = m := by
  rcases Nat.lt_trichotomy n m with z | z | z
  · exact absurd a.1 (b.2 n z)
  · exact z
  · exact absurd b.1 (a.2 m z)
theorem Ds_ex {e : Nat → Nat → Prop} {v : Nat} : ∀ n, Rb e n v → ∃ k, k ≤ n ∧ Ds e k v := by
  intro n
  induction n with
  | zero => intro r; exact ⟨0, Nat.le_refl _, r, fun k hk => absurd hk (Nat.not_lt_zero _)⟩
  | succ n ih =>
    intro r
    by_cases q : Rb e n v
    · obtain ⟨k, hk, d⟩ := ih q
      exact ⟨k, by omega, d⟩
    · exact ⟨n + 1, Nat.le_refl _, r, fun k hk z => q (Rb_le (by omega) z)⟩
theorem Ds_up {e : Nat → Nat → Prop} {n v : Nat} (d : Ds e (n + 1) v) : ∃ w, e v w ∧ Ds e n w := by
  rcases d.1 with z | ⟨w, ew, rw⟩
  · exact absurd z (d.2 n (by omega))
  · refine ⟨w, ew, rw, fun k hk z => ?_⟩
    exact d.2 (k + 1) (by omega) (Or.inr ⟨w, ew, z⟩)
theorem pigeon : ∀ (N : Nat) (f : Nat → Nat), (∀ k, k ≤ N → f k < N) → (∀ i j, i ≤ N → j ≤ N → f i = f j → i = j) → False := by
  intro N
  induction N with
  | zero => intro f a _; exact absurd (a 0 (Nat.le_refl _)) (Nat.not_lt_zero _)
  | succ N ih =>
    intro f a b
    refine ih (fun k => if f k = N then f (N + 1) else f k) ?_ ?_
    · intro k hk
      have a1 := a k (by omega)
      have a2 := a (N + 1) (Nat.le_refl _)
      have b1 := b k (N + 1) (by omega) (Nat.le_refl _)
      split <;> omega
    · intro i j hi hj
      have b1 := b i (N + 1) (by omega) (Nat.le_refl _)
      have b2 := b j (N + 1) (by omega) (Nat.le_refl _)
      have b3 := b i j (by omega) (by omega)
      split <;> split <;> intro q <;> omega
theorem Ds_dn {e : Nat → Nat → Prop} (he : ∀ v w, e v w → w < 12) {v : Nat} : ∀ n, Ds e n v → v < 12 → ∀ k, k ≤ n → ∃ w, w < 12 ∧ Ds e k w := by
  intro n
  induction n generalizing v with
  | zero => intro d hv k hk; obtain rfl : k = 0 := by omega
            exact ⟨v, hv, d⟩
  | succ n ih =>
    intro d hv k hk
    by_cases q : k = n + 1
    · subst q; exact ⟨v, hv, d⟩
    · obtain ⟨w, ew, dw⟩ := Ds_up d
      exact ih dw (he _ _ ew) k (by omega)
theorem Ds_11 {e : Nat → Nat → Prop} (he : ∀ v w, e v w → w < 12) {n v : Nat} (hv : v < 12) (d : Ds e n v) : n ≤ 11 := by
  apply Classical.byContradiction
  intro z
  have a := Ds_dn he n d hv
  have a' : ∀ k, ∃ w, k ≤ n → w < 12 ∧ Ds e k w := fun k => by
    by_cases q : k ≤ n
    · obtain ⟨w, hw⟩ := a k q; exact ⟨w, fun _ => hw⟩
    · exact ⟨0, fun z => absurd z q⟩
  refine pigeon 12 (fun k => (a' k).choose) (fun k hk => ((a' k).choose_spec (by omega)).1) ?_
  intro i j hi hj q
  have p1 := ((a' i).choose_spec (by omega)).2
  have p2 := ((a' j).choose_spec (by omega)).2
  rw [← q] at p2
  exact Ds_uq p1 p2
/-- a row that holds the distances -/
def Far (e : Nat → Nat → Prop) (r : Nat → Int32) (x : Int32) : Prop := ∀ v, v < 12 → (∃ t, t ≤ 11 ∧ Ds e t v ∧ r v = nI t) ∨ ((∀ n, ¬ Rb e n v) ∧ r v = x)
theorem Far_is {e : Nat → Nat → Prop} {r : Nat → Int32} {x : Int32} (f : Far e r x) (hx : ∀ k, k ≤ 11 → ¬ x = nI k) {v : Nat} (hv : v < 12) {k : Nat} (hk : k ≤ 11) : r v = nI k ↔ Ds e k v := by
  rcases f v hv with ⟨t, ht, d, q⟩ | ⟨n, q⟩
  · rw [q, nI_eq (by omega) (by omega)]
    exact ⟨fun z => z ▸ d, fun z => Ds_uq d z⟩
  · rw [q]
    exact ⟨fun z => absurd z (hx k hk), fun z => absurd z.1 (n k)⟩
/-- the steps that are free, as edges -/
def Ed (c : Nat) (op : Nat → Bool) (fr to : Nat → Nat) (v w : Nat) : Prop := ∃ s, s < c ∧ op s = true ∧ fr s = v ∧ to s = w
noncomputable def nxB (e : Nat → Nat → Prop) (op : Nat → Bool) (fr to : Nat → Nat) (k v s : Nat) : Bool := @decide (op s = true ∧ fr s = v ∧ Ds e k (to s)) (Classical.propDecidable _)
theorem nxB_t {e : Nat → Nat → Prop} {op : Nat → Bool} {fr to : Nat → Nat} {k v s : Nat} : nxB e op fr to k v s = true ↔ (op s = true ∧ fr s = v ∧ Ds e k (to s)) := by
  unfold nxB
  exact @decide_eq_true_iff _ (Classical.propDecidable _)
noncomputable def nx (c : Nat) (op : Nat → Bool) (fr to : Nat → Nat) (k v : Nat) : Nat := (frs (nxB (Ed c op fr to) op fr to k v) c).getD 0
theorem frs_ne {p : Nat → Bool} {s : Nat} (hp : p s = true) : ∀ {n : Nat}, s < n → frs p n ≠ none := by
  intro n
  induction n with
  | zero => intro z; exact absurd z (Nat.not_lt_zero _)
  | succ n ih =>
    intro z q
    unfold frs at q
    cases r : frs p n with
    | some b => rw [r] at q; cases q
    | none =>
      rw [r] at q
      by_cases w : s = n
      · subst w; rw [hp] at q; cases q
      · exact ih (by omega) r
theorem nx_is {c : Nat} {op : Nat → Bool} {fr to : Nat → Nat} {k v : Nat} (d : Ds (Ed c op fr to) (k + 1) v) : nx c op fr to k v < c ∧ nxB (Ed c op fr to) op fr to k v (nx c op fr to k v) = true ∧ ∀ j, j < nx c op fr to k v → nxB (Ed c op fr to) op fr to k v j = false := by
  obtain ⟨w, ⟨s, hs, a1, a2, a3⟩, dw⟩ := Ds_up d
  unfold nx
  cases q : frs (nxB (Ed c op fr to) op fr to k v) c with
  | some b => exact frs_is q
  | none =>
    have h1 : nxB (Ed c op fr to) op fr to k v s = true := nxB_t.mpr ⟨a1, a2, by rw [a3]; exact dw⟩
    have := frs_ne (p := nxB (Ed c op fr to) op fr to k v) h1 hs
    exact absurd q this
