/-! what kind of value a method gives back -/
def gdI : Instr → Bool
  | .lreturn => false
  | .areturn => false
  | .return_ => false
  | _ => true
def gdJ : Instr → Bool
  | .ireturn => false
  | .areturn => false
  | .return_ => false
  | _ => true
def onI {α S : Type} (no : α) (rt : Option Value → Hp S → α) (v : Option Value) (h : Hp S) : α := rI v no fun x => rt (some (.int x)) h
def onJ {α S : Type} (no : α) (rt : Option Value → Hp S → α) (v : Option Value) (h : Hp S) : α := rJ v no fun x => rt (some (.long x)) h
theorem stp_I {α S : Type} {L : Nat} {xs : Nat → Int32} {θ : Nat} {rd : S → Nat → Nat → Option Nat} {wr : S → Nat → Nat → Nat → Option S} {no : α} {k : Nat → LV → List Value → Hp S → α} {c : Nat → List Value → Hp S → (Option Value → Hp S → α) → α} {rt : Option Value → Hp S → α} (ai : AI) (hg : gdI ai.1 = true) (pc : Nat) (ls : LV) (st : List Value) (h : Hp S) : stp L xs θ rd wr no k c rt ai pc ls st h = stp L xs θ rd wr no k c (onI no rt) ai pc ls st h := by
  obtain ⟨op, r⟩ := ai
  cases op <;> first | rfl | (rename_i cn _; cases cn <;> rfl) | cases hg
theorem stp_J {α S : Type} {L : Nat} {xs : Nat → Int32} {θ : Nat} {rd : S → Nat → Nat → Option Nat} {wr : S → Nat → Nat → Nat → Option S} {no : α} {k : Nat → LV → List Value → Hp S → α} {c : Nat → List Value → Hp S → (Option Value → Hp S → α) → α} {rt : Option Value → Hp S → α} (ai : AI) (hg : gdJ ai.1 = true) (pc : Nat) (ls : LV) (st : List Value) (h : Hp S) : stp L xs θ rd wr no k c rt ai pc ls st h = stp L xs θ rd wr no k c (onJ no rt) ai pc ls st h := by
  obtain ⟨op, r⟩ := ai
  cases op <;> first | rfl | (rename_i cn _; cases cn <;> rfl) | cases hg
theorem lk_all {g : Instr → Bool} : ∀ {l : List (Nat × AI)} {pc : Nat} {ai : AI}, l.all (fun p => g p.2.1) = true → lk l pc = some ai → g ai.1 = true := by
  intro l
  induction l with
  | nil => intro pc ai _ z; cases z
  | cons a t ih =>
    intro pc ai ha z
    obtain ⟨q, b⟩ := a
    rw [List.all_cons, Bool.and_eq_true] at ha
    rw [lk] at z
    cases e : Nat.beq q pc with
    | true => rw [e] at z; cases z; exact ha.1
    | false => rw [e] at z; exact ih ha.2 z
theorem rI_some {α : Type} {v : Option Value} {f : Int32 → Option α} {q : α} (h : rI v none f = some q) : ∃ x, v = some (.int x) ∧ f x = some q := by
  unfold rI at h
  split at h
  · exact ⟨_, rfl, h⟩
  · cases h
theorem rJ_some {α : Type} {v : Option Value} {f : Int64 → Option α} {q : α} (h : rJ v none f = some q) : ∃ x, v = some (.long x) ∧ f x = some q := by
  unfold rJ at h
  split at h
  · exact ⟨_, rfl, h⟩
  · cases h
theorem run_I {X : XS} {M : Nat} (ha : (cdT M).all (fun p => gdI p.2.1) = true) : ∀ (n pc : Nat) (ls : LV) (st : List Value) (h : H2) (q : Option Value × H2), run cdT X.1 X.2 137 rd2 wr2 n M pc ls st h = some q → ∃ x, q.1 = some (.int x) := by
  intro n
  induction n with
  | zero => intro pc ls st h q hq; cases hq
  | succ n ih =>
    intro pc ls st h q hq
    rw [run] at hq
    cases hl : lk (cdT M) pc with
    | none => rw [hl] at hq; cases hq
    | some ai =>
      rw [hl] at hq
      dsimp only at hq
      rw [stp_I ai (lk_all ha hl)] at hq
      refine stp_rel (β := Unit) (fun (x : Option (Option Value × H2)) _ => ∀ q, x = some q → ∃ x, q.1 = some (.int x)) (no' := ()) (k' := fun _ _ _ _ => ()) (c' := fun _ _ _ _ => ()) (rt' := fun _ _ => ()) (fun q z => by cases z) (fun pc ls st h q z => ih pc ls st h q z) ?_ ?_ ai pc ls st h q hq
      · intro M' as h f f' hf q z
        obtain ⟨w, h1, h2⟩ := Option.bind_eq_some_iff.mp z
        exact hf _ _ q h2
      · intro v h q z
        obtain ⟨x, -, h2⟩ := rI_some z
        cases h2
        exact ⟨x, rfl⟩
theorem run_J {X : XS} {M : Nat} (ha : (cdT M).all (fun p => gdJ p.2.1) = true) : ∀ (n pc : Nat) (ls : LV) (st : List Value) (h : H2) (q : Option Value × H2), run cdT X.1 X.2 137 rd2 wr2 n M pc ls st h = some q → ∃ x, q.1 = some (.long x) := by
  intro n
  induction n with
  | zero => intro pc ls st h q hq; cases hq
  | succ n ih =>
    intro pc ls st h q hq
    rw [run] at hq
    cases hl : lk (cdT M) pc with
    | none => rw [hl] at hq; cases hq
    | some ai =>
      rw [hl] at hq
      dsimp only at hq
      rw [stp_J ai (lk_all ha hl)] at hq
      refine stp_rel (β := Unit) (fun (x : Option (Option Value × H2)) _ => ∀ q, x = some q → ∃ x, q.1 = some (.long x)) (no' := ()) (k' := fun _ _ _ _ => ()) (c' := fun _ _ _ _ => ()) (rt' := fun _ _ => ()) (fun q z => by cases z) (fun pc ls st h q z => ih pc ls st h q z) ?_ ?_ ai pc ls st h q hq
      · intro M' as h f f' hf q z
        obtain ⟨w, h1, h2⟩ := Option.bind_eq_some_iff.mp z
        exact hf _ _ q h2
      · intro v h q z
        obtain ⟨x, -, h2⟩ := rJ_some z
        cases h2
        exact ⟨x, rfl⟩
theorem lgc0 (x : Int64) : lg_cmp x x = 0 := by
  unfold lg_cmp
  simp
theorem fnI {X : XS} {M N : Nat} {as bs : List Value} {h : H2} {R Nx B : H2 → Prop} (ha : (cdT M).all (fun p => gdI p.2.1) = true) (e : EC X M as h (fun v1 h1 => EC X N bs h1 (fun v2 h2 => v1 = v2 ∧ R h2))) (hn : ∀ h2, R h2 → Nx h2) : cI X M as h (fun x2 h1 => cI X N bs h1 (fun x4 h3 => if x2 = x4 then Nx h3 else B h3)) := by
  obtain ⟨n, v, h1, hr, hq⟩ := e
  obtain ⟨x, hx⟩ := run_I (X := X) ha _ _ _ _ _ _ hr
  refine ⟨n, v, h1, hr, ?_⟩
  dsimp only at hx
  subst hx
  rw [rI_i]
  refine hq.mono (fun v2 h2 z => ?_)
  rw [← z.1, rI_i]
  dsimp only
  rw [if_pos rfl]
  exact hn h2 z.2
theorem fnJ {X : XS} {M N : Nat} {as bs : List Value} {h : H2} {R Nx B : H2 → Prop} (ha : (cdT M).all (fun p => gdJ p.2.1) = true) (e : EC X M as h (fun v1 h1 => EC X N bs h1 (fun v2 h2 => v1 = v2 ∧ R h2))) (hn : ∀ h2, R h2 → Nx h2) : cJ X M as h (fun x2 h1 => cJ X N bs h1 (fun x4 h3 => if lg_cmp x2 x4 = 0 then Nx h3 else B h3)) := by
  obtain ⟨n, v, h1, hr, hq⟩ := e
  obtain ⟨x, hx⟩ := run_J (X := X) ha _ _ _ _ _ _ hr
  refine ⟨n, v, h1, hr, ?_⟩
  dsimp only at hx
  subst hx
  rw [rJ_i]
  refine hq.mono (fun v2 h2 z => ?_)
  rw [← z.1, rJ_i]
  dsimp only
  rw [if_pos (lgc0 x)]
  exact hn h2 z.2
