/-! the number of cells never falls -/
def leN {S : Type} (n : Nat) (x : Option (Option Value × Hp S)) : Prop := ∀ q, x = some q → n ≤ q.2.1
theorem leN_no {S : Type} {n : Nat} : leN (S := S) n none := fun _ h => by cases h
theorem leN_up {S : Type} {n m : Nat} {x : Option (Option Value × Hp S)} (h : n ≤ m) (hx : leN m x) : leN n x := fun q hq => Nat.le_trans h (hx q hq)
theorem bf_le {S : Type} {n : Nat} {b : Bool} {x y : Option (Option Value × Hp S)} (h1 : leN n x) (h2 : leN n y) : leN n (bif b then x else y) := by
  cases b
  · exact h2
  · exact h1
theorem if_le {S : Type} {n : Nat} {c : Prop} [Decidable c] {x y : Option (Option Value × Hp S)} (h1 : leN n x) (h2 : leN n y) : leN n (if c then x else y) := by
  by_cases h : c
  · rw [if_pos h]
    exact h1
  · rw [if_neg h]
    exact h2
theorem swt_le {S : Type} {n : Nat} {x : Int32} {f : Nat → Option (Option Value × Hp S)} {d : Option (Option Value × Hp S)} (hf : ∀ t, leN n (f t)) (hd : leN n d) : ∀ l : List (Int32 × Nat), leN n (swt x l f d)
  | [] => hd
  | (v, t) :: r => by
    unfold swt
    exact if_le (hf t) (swt_le hf hd r)
set_option maxHeartbeats 4000000 in
set_option maxRecDepth 100000 in
theorem stp_le {S : Type} {L : Nat} {xs : Nat → Int32} {θ : Nat} {rd : S → Nat → Nat → Option Nat} {wr : S → Nat → Nat → Nat → Option S} {k : Nat → LV → List Value → Hp S → Option (Option Value × Hp S)}
    {c : Nat → List Value → Hp S → (Option Value → Hp S → Option (Option Value × Hp S)) → Option (Option Value × Hp S)} {rt : Option Value → Hp S → Option (Option Value × Hp S)}
    (hk0 : ∀ pc ls st h, leN h.1 (k pc ls st h)) (hc : ∀ M as h f, (∀ v h1, leN h1.1 (f v h1)) → leN h.1 (c M as h f)) (hr : ∀ v h, leN h.1 (rt v h))
    (ai : AI) (pc : Nat) (ls : LV) (st : List Value) (h : Hp S) : leN h.1 (stp L xs θ rd wr none k c rt ai pc ls st h) := by
  have hno : leN (S := S) h.1 none := leN_no
  have hk : ∀ pc ls st h', h'.1 = h.1 → leN h.1 (k pc ls st h') := fun pc ls st h' e => by rw [← e]; exact hk0 pc ls st h'
  have qI : ∀ (n : Nat) (v : Option Value) (f : Int32 → Option (Option Value × Hp S)), (∀ x, leN n (f x)) → leN n (rI v none f) := by
    intro n v f hf
    unfold rI
    split
    · exact hf _
    · exact leN_no
  have qJ : ∀ (n : Nat) (v : Option Value) (f : Int64 → Option (Option Value × Hp S)), (∀ x, leN n (f x)) → leN n (rJ v none f) := by
    intro n v f hf
    unfold rJ
    split
    · exact hf _
    · exact leN_no
  have qO : ∀ (n : Nat) (v : Option Value) (m : Option (Option Value × Hp S)) (f : Nat → Option (Option Value × Hp S)), leN n m → (∀ x, leN n (f x)) → leN n (rO v none m f) := by
    intro n v m f hn hf
    unfold rO
    split
    · exact hn
    · exact hf _
    · exact leN_no
  have qV : ∀ (n : Nat) (v : Option Value) (m : Option (Option Value × Hp S)), leN n m → leN n (rV v none m) := by
    intro n v m hn
    unfold rV
    split
    · exact hn
    · exact leN_no
  have qS : ∀ (o : Option S) (f : S → Option (Option Value × Hp S)), (∀ x, leN h.1 (f x)) → leN h.1 (oS o none f) := by
    intro v f hf
    unfold oS
    split
    · exact hf _
    · exact hno
  have qE : ∀ (o : Option Nat) (m : Option (Option Value × Hp S)) (f : Nat → Option (Option Value × Hp S)), leN h.1 m → (∀ x, leN h.1 (f x)) → leN h.1 (oel o m f) := by
    intro v m f hn hf
    unfold oel
    split
    · exact hn
    · exact hf _
  obtain ⟨i, len, a, sw⟩ := ai
  cases i
  case ifCond cd off => cases cd <;> (unfold stp; dsimp only; unfold pI; split; exact if_le (hk _ _ _ _ rfl) (hk _ _ _ _ rfl); exact hno)
  case if_icmp cd off => cases cd <;> (unfold stp; dsimp only; unfold pII; split; exact if_le (hk _ _ _ _ rfl) (hk _ _ _ _ rfl); exact hno)
  all_goals (unfold stp; dsimp only)
  all_goals first
    | exact hno
    | exact hk _ _ _ _ rfl
    | exact qI _ _ _ (fun _ => hk _ _ _ _ rfl)
    | exact qJ _ _ _ (fun _ => hk _ _ _ _ rfl)
    | exact qO _ _ _ _ (hk _ _ _ _ rfl) (fun _ => hk _ _ _ _ rfl)
    | exact qI _ _ _ (fun _ => bf_le (hk _ _ _ _ rfl) hno)
    | (unfold pI; split; exact hk _ _ _ _ rfl; exact hno)
    | (unfold pII; split; exact hk _ _ _ _ rfl; exact hno)
    | (unfold pJJ; split; exact hk _ _ _ _ rfl; exact hno)
    | (unfold pII; split; exact if_le hno (hk _ _ _ _ rfl); exact hno)
    | (unfold pJJ; split; exact if_le hno (hk _ _ _ _ rfl); exact hno)
    | (unfold pI; split; exact bf_le (hk _ _ _ _ rfl) hno; exact hno)
    | (unfold pJ; split; exact bf_le (hk _ _ _ _ rfl) hno; exact hno)
    | (unfold pO; split; exact bf_le (hk _ _ _ _ rfl) hno; exact bf_le (hk _ _ _ _ rfl) hno; exact hno)
    | (unfold pO; split; exact hk _ _ _ _ rfl; exact hk _ _ _ _ rfl; exact hno)
    | (unfold pI; split; exact swt_le (fun _ => hk _ _ _ _ rfl) (hk _ _ _ _ rfl) _; exact hno)
    | (unfold pIR; split; exact bf_le (if_le hno (hk _ _ _ _ rfl)) hno; exact hno)
    | (unfold pIR; split; exact bf_le (if_le hno (qE _ _ _ (hk _ _ _ _ rfl) (fun _ => hk _ _ _ _ rfl))) hno; exact hno)
    | (unfold pIIR; split; exact bf_le (if_le hno (hk _ _ _ _ rfl)) hno; exact hno)
    | (unfold pRIR; split; exact bf_le (if_le hno (qS _ _ (fun _ => hk _ _ _ _ rfl))) hno; exact hno)
    | (unfold pR; split; exact bf_le (hk _ _ _ _ rfl) hno; exact hno)
    | exact bf_le (hk _ _ _ _ rfl) hno
    | exact bf_le (leN_up (Nat.le_succ _) (hk0 _ _ _ (hN h 1))) hno
    | (unfold pI; split; exact bf_le (leN_up (Nat.le_succ _) (hk0 _ _ _ (hN h 1))) hno; exact hno)
    | (unfold pII; split; exact bf_le (qS _ _ (fun _ => leN_up (Nat.le_add_right _ _) (hk0 _ _ _ _))) hno; exact hno)
    | (unfold pD; split; exact hk _ _ _ _ rfl; exact hk _ _ _ _ rfl; exact hno)
    | (unfold pIR; split; exact hk _ _ _ _ rfl; exact hno)
    | (unfold r1I; split; exact bf_le (hr _ _) hno; exact hno)
    | (unfold r1J; split; exact hr _ _; exact hno)
    | (unfold r1O; split; exact hr _ _; exact hr _ _; exact hno)
    | (unfold r0; split; exact hr _ _; exact hno)
    | skip
  case getfield ix =>
    unfold pR
    split
    · refine bf_le ?_ hno
      unfold t4
      split
      · exact hk _ _ _ _ rfl
      · exact qE _ _ _ (hk _ _ _ _ rfl) (fun _ => hk _ _ _ _ rfl)
      · exact hk _ _ _ _ rfl
      · exact hk _ _ _ _ rfl
    · exact hno
  case putfield ix =>
    unfold t4
    split
    · unfold pJR; split; exact bf_le (hk _ _ _ _ rfl) hno; exact hno
    · unfold pRR; split; exact bf_le (qS _ _ (fun _ => hk _ _ _ _ rfl)) hno; exact hno
    · unfold pIR; split; exact bf_le (hk _ _ _ _ rfl) hno; exact hno
    · unfold pIR; split; exact bf_le (hk _ _ _ _ rfl) hno; exact hno
  case invokevirtual ix =>
    unfold tkm
    split
    · refine bf_le ?_ hno
      dsimp only
      unfold hdR
      split
      · refine bf_le ?_ hno
        unfold t3
        split
        · exact hc _ _ _ _ (fun _ _ => qV _ _ _ (hk0 _ _ _ _))
        · exact hc _ _ _ _ (fun _ _ => qI _ _ _ (fun _ => hk0 _ _ _ _))
        · exact hc _ _ _ _ (fun _ _ => qJ _ _ _ (fun _ => hk0 _ _ _ _))
        · exact hc _ _ _ _ (fun _ _ => qO _ _ _ _ (hk0 _ _ _ _) (fun _ => hk0 _ _ _ _))
      · exact hno
    · exact hno
  case invokestatic ix =>
    unfold xk
    split
    · unfold pCpy; split; exact bf_le (if_le hno (hk _ _ _ _ rfl)) hno; exact hno
    · unfold pII; split; exact bf_le (hk _ _ _ _ rfl) hno; exact hno
    · unfold pII; split; exact bf_le (hk _ _ _ _ rfl) hno; exact hno
    · unfold pI; split; exact bf_le (hk _ _ _ _ rfl) hno; exact hno
    · unfold tkm
      split
      · refine bf_le ?_ hno
        dsimp only
        unfold t3
        split
        · exact hc _ _ _ _ (fun _ _ => qV _ _ _ (hk0 _ _ _ _))
        · exact hc _ _ _ _ (fun _ _ => qI _ _ _ (fun _ => hk0 _ _ _ _))
        · exact hc _ _ _ _ (fun _ _ => qJ _ _ _ (fun _ => hk0 _ _ _ _))
        · exact hc _ _ _ _ (fun _ _ => qO _ _ _ _ (hk0 _ _ _ _) (fun _ => hk0 _ _ _ _))
      · exact hno
  case invokespecial ix =>
    unfold nk
    split
    · unfold pR; split; exact bf_le (hk _ _ _ _ rfl) hno; exact hno
    · unfold tkm
      split
      · refine bf_le ?_ hno
        dsimp only
        unfold hdR
        split
        · exact hc _ _ _ _ (fun _ _ => qV _ _ _ (hk0 _ _ _ _))
        · exact hno
      · exact hno
theorem run_n {S : Type} {cd : Nat → List (Nat × AI)} {L : Nat} {xs : Nat → Int32} {θ : Nat} {rd : S → Nat → Nat → Option Nat} {wr : S → Nat → Nat → Nat → Option S} : ∀ (n M pc : Nat) (ls : LV) (st : List Value) (h : Hp S), leN h.1 (run cd L xs θ rd wr n M pc ls st h) := by
  intro n
  induction n with
  | zero => intro M pc ls st h; exact leN_no
  | succ n ih =>
    intro M pc ls st h
    rw [run]
    cases lk (cd M) pc with
    | none => exact leN_no
    | some ai =>
      refine stp_le (fun pc ls st h => ih M pc ls st h) (fun M' as h f hf => ?_) (fun v h q hq => by cases hq; exact Nat.le_refl _) ai pc ls st h
      intro q hq
      obtain ⟨z, e1, e2⟩ := Option.bind_eq_some_iff.mp hq
      exact Nat.le_trans (ih _ _ _ _ _ z e1) (hf _ _ q e2)
