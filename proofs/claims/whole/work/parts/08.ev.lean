/-! runs, and what comes of them -/
def run {S : Type} (cd : Nat → List (Nat × AI)) (L : Nat) (xs : Nat → Int32) (θ : Nat) (rd : S → Nat → Nat → Option Nat) (wr : S → Nat → Nat → Nat → Option S) : Nat → Nat → Nat → LV → List Value → Hp S → Option (Option Value × Hp S)
  | 0, _, _, _, _, _ => none
  | n + 1, M, pc, ls, st, h => match lk (cd M) pc with
    | none => none
    | some ai => stp L xs θ rd wr none (fun pc ls st h => run cd L xs θ rd wr n M pc ls st h) (fun M' as h f => (run cd L xs θ rd wr n M' 0 (entm M' as) [] h).bind (fun q => f q.1 q.2)) (fun v h => some (v, h)) ai pc ls st h
section EV
variable {S : Type} {cd : Nat → List (Nat × AI)} {L : Nat} {xs : Nat → Int32} {θ : Nat} {rd : S → Nat → Nat → Option Nat} {wr : S → Nat → Nat → Nat → Option S}
theorem run_succ : ∀ (n M pc : Nat) (ls : LV) (st : List Value) (h : Hp S) (q : Option Value × Hp S), run cd L xs θ rd wr n M pc ls st h = some q → run cd L xs θ rd wr (n + 1) M pc ls st h = some q := by
  intro n
  induction n with
  | zero => intro M pc ls st h q hq; cases hq
  | succ n ih =>
    intro M pc ls st h q hq
    rw [run] at hq ⊢
    cases hl : lk (cd M) pc with
    | none => rw [hl] at hq; cases hq
    | some ai =>
      rw [hl] at hq
      dsimp only at hq ⊢
      have := stp_rel (S := S) (fun (x y : Option (Option Value × Hp S)) => ∀ q, x = some q → y = some q) (L := L) (xs := xs) (θ := θ) (rd := rd) (wr := wr) (no := none) (no' := none) (k := fun pc ls st h => run cd L xs θ rd wr n M pc ls st h) (k' := fun pc ls st h => run cd L xs θ rd wr (n + 1) M pc ls st h)
        (c := fun M' as h f => (run cd L xs θ rd wr n M' 0 (entm M' as) [] h).bind (fun q => f q.1 q.2)) (c' := fun M' as h f => (run cd L xs θ rd wr (n + 1) M' 0 (entm M' as) [] h).bind (fun q => f q.1 q.2)) (rt := fun v h => some (v, h)) (rt' := fun v h => some (v, h))
        (fun q h => h) (fun pc ls st h q hq => ih M pc ls st h q hq) (fun M' as h f f' hf q hq => by
          obtain ⟨z, h1, h2⟩ := Option.bind_eq_some_iff.mp hq
          exact Option.bind_eq_some_iff.mpr ⟨z, ih _ _ _ _ _ _ h1, hf _ _ _ h2⟩) (fun v h q hq => hq) ai pc ls st h
      exact this q hq
theorem run_le {n n' M pc : Nat} {ls : LV} {st : List Value} {h : Hp S} {q : Option Value × Hp S} (hn : n ≤ n') (hq : run cd L xs θ rd wr n M pc ls st h = some q) : run cd L xs θ rd wr n' M pc ls st h = some q := by
  induction hn with
  | refl => exact hq
  | step _ ih => exact run_succ _ _ _ _ _ _ _ ih
def Ev {S : Type} (cd : Nat → List (Nat × AI)) (L : Nat) (xs : Nat → Int32) (θ : Nat) (rd : S → Nat → Nat → Option Nat) (wr : S → Nat → Nat → Nat → Option S) (M pc : Nat) (ls : LV) (st : List Value) (h : Hp S) (Q : Option Value → Hp S → Prop) : Prop :=
  ∃ (n : Nat) (v : Option Value) (h1 : Hp S), run cd L xs θ rd wr n M pc ls st h = some (v, h1) ∧ Q v h1
theorem Ev.mono {M pc : Nat} {ls : LV} {st : List Value} {h : Hp S} {Q Q' : Option Value → Hp S → Prop} (he : Ev cd L xs θ rd wr M pc ls st h Q) (hq : ∀ v h1, Q v h1 → Q' v h1) : Ev cd L xs θ rd wr M pc ls st h Q' := by
  obtain ⟨n, v, h1, a, b⟩ := he
  exact ⟨n, v, h1, a, hq v h1 b⟩
theorem Ev.both {M pc : Nat} {ls : LV} {st : List Value} {h : Hp S} {Q Q' : Option Value → Hp S → Prop} (he : Ev cd L xs θ rd wr M pc ls st h Q) (he' : Ev cd L xs θ rd wr M pc ls st h Q') : ∃ v h1, Q v h1 ∧ Q' v h1 := by
  obtain ⟨n, v, h1, a, b⟩ := he
  obtain ⟨n', v', h1', a', b'⟩ := he'
  have e1 := run_le (Nat.le_max_left n n') a
  have e2 := run_le (Nat.le_max_right n n') a'
  rw [e1] at e2
  cases e2
  exact ⟨v, h1, b, b'⟩
/-- what a run comes to is all that can be said of it -/
theorem Ev.is {M pc : Nat} {ls : LV} {st : List Value} {h : Hp S} {Q : Option Value → Hp S → Prop} {v : Option Value} {h1 : Hp S} (he : Ev cd L xs θ rd wr M pc ls st h (fun v' h' => v' = v ∧ h' = h1)) : Ev cd L xs θ rd wr M pc ls st h Q ↔ Q v h1 := by
  constructor
  · intro hq
    obtain ⟨v', h', ⟨rfl, rfl⟩, b⟩ := he.both hq
    exact b
  · intro hq
    exact he.mono (fun v' h' e => by rw [e.1, e.2]; exact hq)
theorem Ev_step {M pc : Nat} {ls : LV} {st : List Value} {h : Hp S} {Q : Option Value → Hp S → Prop} {ai : AI} (hl : lk (cd M) pc = some ai) :
    stp L xs θ rd wr False (fun pc ls st h => Ev cd L xs θ rd wr M pc ls st h Q) (fun M' as h f => Ev cd L xs θ rd wr M' 0 (entm M' as) [] h f) Q ai pc ls st h ↔ Ev cd L xs θ rd wr M pc ls st h Q := by
  constructor
  · intro hq
    have h1 := stp_rel (S := S) (fun (x : Nat → Option (Option Value × Hp S)) (P : Prop) => P → ∃ n0, ∀ n, n0 ≤ n → ∃ v h1, x n = some (v, h1) ∧ Q v h1) (L := L) (xs := xs) (θ := θ) (rd := rd) (wr := wr) (no := fun _ => none) (no' := False)
      (k := fun pc ls st h n => run cd L xs θ rd wr n M pc ls st h) (k' := fun pc ls st h => Ev cd L xs θ rd wr M pc ls st h Q) (c := fun M' as h f n => (run cd L xs θ rd wr n M' 0 (entm M' as) [] h).bind (fun q => f q.1 q.2 n)) (c' := fun M' as h f => Ev cd L xs θ rd wr M' 0 (entm M' as) [] h f)
      (rt := fun v h _ => some (v, h)) (rt' := Q) (fun hf => hf.elim) (fun pc ls st h he => by
        obtain ⟨n, v, h1, a, b⟩ := he
        exact ⟨n, fun n' hn => ⟨v, h1, run_le hn a, b⟩⟩) (fun M' as h f f' hf he => by
        obtain ⟨n, v, h1, a, b⟩ := he
        obtain ⟨n2, hn2⟩ := hf v h1 b
        refine ⟨max n n2, fun n' hn => ?_⟩
        obtain ⟨v2, h2, a2, b2⟩ := hn2 n' (Nat.le_trans (Nat.le_max_right _ _) hn)
        exact ⟨v2, h2, by rw [run_le (Nat.le_trans (Nat.le_max_left _ _) hn) a]; exact a2, b2⟩) (fun v h hq => ⟨0, fun n _ => ⟨v, h, rfl, hq⟩⟩) ai pc ls st h hq
    obtain ⟨n0, hn⟩ := h1
    obtain ⟨v, h1, a, b⟩ := hn n0 (Nat.le_refl _)
    refine ⟨n0 + 1, v, h1, ?_, b⟩
    rw [run, hl, ← a]
    dsimp only
    exact (stp_rel (S := S) (fun (x : Nat → Option (Option Value × Hp S)) (y : Option (Option Value × Hp S)) => y = x n0) (no := fun _ => none) (no' := none)
      (k := fun pc ls st h n => run cd L xs θ rd wr n M pc ls st h) (k' := fun pc ls st h => run cd L xs θ rd wr n0 M pc ls st h) (c := fun M' as h f n => (run cd L xs θ rd wr n M' 0 (entm M' as) [] h).bind (fun q => f q.1 q.2 n)) (c' := fun M' as h f => (run cd L xs θ rd wr n0 M' 0 (entm M' as) [] h).bind (fun q => f q.1 q.2))
      (rt := fun v h _ => some (v, h)) (rt' := fun v h => some (v, h)) rfl (fun _ _ _ _ => rfl) (fun M' as h f f' hf => by
      show (run cd L xs θ rd wr n0 M' 0 (entm M' as) [] h).bind (fun q => f' q.1 q.2) = (run cd L xs θ rd wr n0 M' 0 (entm M' as) [] h).bind (fun q => f q.1 q.2 n0)
      cases run cd L xs θ rd wr n0 M' 0 (entm M' as) [] h with
      | none => rfl
      | some q => exact hf _ _) (fun _ _ => rfl) ai pc ls st h)
  · rintro ⟨n, v, h1, a, b⟩
    cases n with
    | zero => cases a
    | succ n =>
      rw [run, hl] at a
      dsimp only at a
      exact stp_rel (S := S) (fun (x : Option (Option Value × Hp S)) (P : Prop) => ∀ v h1, x = some (v, h1) → Q v h1 → P) (fun v h1 e _ => by cases e) (fun pc ls st h v h1 e q => ⟨n, v, h1, e, q⟩) (fun M' as h f f' hf v h1 e q => by
        obtain ⟨z, e1, e2⟩ := Option.bind_eq_some_iff.mp e
        exact ⟨n, z.1, z.2, e1, hf _ _ _ _ e2 q⟩) (fun v h v' h' e q => by cases e; exact q) ai pc ls st h v h1 a b
def inn : List Nat → Nat → Bool
  | [], _ => false
  | a :: t, n => bif Nat.beq a n then true else inn t n
/-- steps, up to n of them, stopping at the places of 'stops' -/
def wp {S : Type} (cd : Nat → List (Nat × AI)) (L : Nat) (xs : Nat → Int32) (θ : Nat) (rd : S → Nat → Nat → Option Nat) (wr : S → Nat → Nat → Nat → Option S) (M : Nat) (cm : List (Nat × AI)) (stops : List Nat) (Q : Option Value → Hp S → Prop) : Nat → Nat → LV → List Value → Hp S → Prop
  | 0, pc, ls, st, h => Ev cd L xs θ rd wr M pc ls st h Q
  | n + 1, pc, ls, st, h => match lk cm pc with
    | none => Ev cd L xs θ rd wr M pc ls st h Q
    | some ai => stp L xs θ rd wr False (fun pc ls st h => bif inn stops pc then Ev cd L xs θ rd wr M pc ls st h Q else wp cd L xs θ rd wr M cm stops Q n pc ls st h) (fun M' as h f => Ev cd L xs θ rd wr M' 0 (entm M' as) [] h f) Q ai pc ls st h
theorem wp_iff {M : Nat} {cm : List (Nat × AI)} (hcm : cd M = cm) {stops : List Nat} {Q : Option Value → Hp S → Prop} : ∀ (n pc : Nat) (ls : LV) (st : List Value) (h : Hp S), Ev cd L xs θ rd wr M pc ls st h Q ↔ wp cd L xs θ rd wr M cm stops Q n pc ls st h := by
  intro n
  induction n with
  | zero => intro pc ls st h; exact Iff.rfl
  | succ n ih =>
    intro pc ls st h
    rw [wp]
    cases hl : lk cm pc with
    | none => exact Iff.rfl
    | some ai =>
      dsimp only
      rw [← Ev_step (ai := ai) (by rw [hcm]; exact hl)]
      refine stp_rel (S := S) (fun (x y : Prop) => x ↔ y) Iff.rfl (fun pc ls st h => ?_) (fun M' as h f f' hf => ?_) (fun _ _ => Iff.rfl) ai pc ls st h
      · cases inn stops pc
        · exact ih pc ls st h
        · exact Iff.rfl
      · exact ⟨fun e => e.mono (fun v h1 => (hf v h1).mp), fun e => e.mono (fun v h1 => (hf v h1).mpr)⟩
end EV
