/-! what one step gives in one type it gives, related, in another -/
theorem bf_rel {α β : Type} {ρ : α → β → Prop} {b : Bool} {x y : α} {x' y' : β} (h1 : ρ x x') (h2 : ρ y y') : ρ (bif b then x else y) (bif b then x' else y') := by
  cases b
  · exact h2
  · exact h1
theorem if_rel {α β : Type} {ρ : α → β → Prop} {c : Prop} [Decidable c] {x y : α} {x' y' : β} (h1 : ρ x x') (h2 : ρ y y') : ρ (if c then x else y) (if c then x' else y') := by
  by_cases h : c
  · rw [if_pos h, if_pos h]
    exact h1
  · rw [if_neg h, if_neg h]
    exact h2
theorem swt_rel {α β : Type} {ρ : α → β → Prop} {x : Int32} {f : Nat → α} {f' : Nat → β} {d : α} {d' : β} (hf : ∀ t, ρ (f t) (f' t)) (hd : ρ d d') : ∀ l : List (Int32 × Nat), ρ (swt x l f d) (swt x l f' d')
  | [] => hd
  | (v, t) :: r => by
    unfold swt
    exact if_rel (hf t) (swt_rel hf hd r)
set_option maxHeartbeats 4000000 in
set_option maxRecDepth 100000 in
theorem stp_rel {α β S : Type} (ρ : α → β → Prop) {L : Nat} {xs : Nat → Int32} {θ : Nat} {rd : S → Nat → Nat → Option Nat} {wr : S → Nat → Nat → Nat → Option S} {no : α} {no' : β} {k : Nat → LV → List Value → Hp S → α} {k' : Nat → LV → List Value → Hp S → β}
    {c : Nat → List Value → Hp S → (Option Value → Hp S → α) → α} {c' : Nat → List Value → Hp S → (Option Value → Hp S → β) → β} {rt : Option Value → Hp S → α} {rt' : Option Value → Hp S → β}
    (hno : ρ no no') (hk : ∀ pc ls st h, ρ (k pc ls st h) (k' pc ls st h)) (hc : ∀ M as h f f', (∀ v h1, ρ (f v h1) (f' v h1)) → ρ (c M as h f) (c' M as h f')) (hr : ∀ v h, ρ (rt v h) (rt' v h))
    (ai : AI) (pc : Nat) (ls : LV) (st : List Value) (h : Hp S) : ρ (stp L xs θ rd wr no k c rt ai pc ls st h) (stp L xs θ rd wr no' k' c' rt' ai pc ls st h) := by
  have qI : ∀ (v : Option Value) (f : Int32 → α) (f' : Int32 → β), (∀ x, ρ (f x) (f' x)) → ρ (rI v no f) (rI v no' f') := by
    intro v f f' hf
    unfold rI
    split
    · exact hf _
    · exact hno
  have qJ : ∀ (v : Option Value) (f : Int64 → α) (f' : Int64 → β), (∀ x, ρ (f x) (f' x)) → ρ (rJ v no f) (rJ v no' f') := by
    intro v f f' hf
    unfold rJ
    split
    · exact hf _
    · exact hno
  have qO : ∀ (v : Option Value) (n : α) (n' : β) (f : Nat → α) (f' : Nat → β), ρ n n' → (∀ x, ρ (f x) (f' x)) → ρ (rO v no n f) (rO v no' n' f') := by
    intro v n n' f f' hn hf
    unfold rO
    split
    · exact hn
    · exact hf _
    · exact hno
  have qV : ∀ (v : Option Value) (n : α) (n' : β), ρ n n' → ρ (rV v no n) (rV v no' n') := by
    intro v n n' hn
    unfold rV
    split
    · exact hn
    · exact hno
  have qS : ∀ (o : Option S) (f : S → α) (f' : S → β), (∀ x, ρ (f x) (f' x)) → ρ (oS o no f) (oS o no' f') := by
    intro v f f' hf
    unfold oS
    split
    · exact hf _
    · exact hno
  have qE : ∀ (o : Option Nat) (n : α) (n' : β) (f : Nat → α) (f' : Nat → β), ρ n n' → (∀ x, ρ (f x) (f' x)) → ρ (oel o n f) (oel o n' f') := by
    intro v n n' f f' hn hf
    unfold oel
    split
    · exact hn
    · exact hf _
  obtain ⟨i, len, a, sw⟩ := ai
  cases i
  case ifCond cd off => cases cd <;> (unfold stp; dsimp only; unfold pI; split; exact if_rel (hk _ _ _ _) (hk _ _ _ _); exact hno)
  case if_icmp cd off => cases cd <;> (unfold stp; dsimp only; unfold pII; split; exact if_rel (hk _ _ _ _) (hk _ _ _ _); exact hno)
  all_goals (unfold stp; dsimp only)
  all_goals first
    | exact hno
    | exact hk _ _ _ _
    | exact qI _ _ _ (fun _ => hk _ _ _ _)
    | exact qJ _ _ _ (fun _ => hk _ _ _ _)
    | exact qO _ _ _ _ _ (hk _ _ _ _) (fun _ => hk _ _ _ _)
    | exact qI _ _ _ (fun _ => bf_rel (hk _ _ _ _) hno)
    | (unfold pI; split; exact hk _ _ _ _; exact hno)
    | (unfold pII; split; exact hk _ _ _ _; exact hno)
    | (unfold pJJ; split; exact hk _ _ _ _; exact hno)
    | (unfold pII; split; exact if_rel hno (hk _ _ _ _); exact hno)
    | (unfold pJJ; split; exact if_rel hno (hk _ _ _ _); exact hno)
    | (unfold pI; split; exact bf_rel (hk _ _ _ _) hno; exact hno)
    | (unfold pJ; split; exact bf_rel (hk _ _ _ _) hno; exact hno)
    | (unfold pO; split; exact bf_rel (hk _ _ _ _) hno; exact bf_rel (hk _ _ _ _) hno; exact hno)
    | (unfold pO; split; exact hk _ _ _ _; exact hk _ _ _ _; exact hno)
    | (unfold pI; split; exact swt_rel (fun _ => hk _ _ _ _) (hk _ _ _ _) _; exact hno)
    | (unfold pIR; split; exact bf_rel (if_rel hno (hk _ _ _ _)) hno; exact hno)
    | (unfold pIR; split; exact bf_rel (if_rel hno (qE _ _ _ _ _ (hk _ _ _ _) (fun _ => hk _ _ _ _))) hno; exact hno)
    | (unfold pIIR; split; exact bf_rel (if_rel hno (hk _ _ _ _)) hno; exact hno)
    | (unfold pRIR; split; exact bf_rel (if_rel hno (qS _ _ _ (fun _ => hk _ _ _ _))) hno; exact hno)
    | (unfold pR; split; exact bf_rel (hk _ _ _ _) hno; exact hno)
    | exact bf_rel (hk _ _ _ _) hno
    | (unfold pII; split; exact bf_rel (qS _ _ _ (fun _ => hk _ _ _ _)) hno; exact hno)
    | (unfold pD; split; exact hk _ _ _ _; exact hk _ _ _ _; exact hno)
    | (unfold pIR; split; exact hk _ _ _ _; exact hno)
    | (unfold r1I; split; exact bf_rel (hr _ _) hno; exact hno)
    | (unfold r1J; split; exact hr _ _; exact hno)
    | (unfold r1O; split; exact hr _ _; exact hr _ _; exact hno)
    | (unfold r0; split; exact hr _ _; exact hno)
    | skip
  case getfield ix =>
    unfold pR
    split
    · refine bf_rel ?_ hno
      unfold t4
      split
      · exact hk _ _ _ _
      · exact qE _ _ _ _ _ (hk _ _ _ _) (fun _ => hk _ _ _ _)
      · exact hk _ _ _ _
      · exact hk _ _ _ _
    · exact hno
  case putfield ix =>
    unfold t4
    split
    · unfold pJR; split; exact bf_rel (hk _ _ _ _) hno; exact hno
    · unfold pRR; split; exact bf_rel (qS _ _ _ (fun _ => hk _ _ _ _)) hno; exact hno
    · unfold pIR; split; exact bf_rel (hk _ _ _ _) hno; exact hno
    · unfold pIR; split; exact bf_rel (hk _ _ _ _) hno; exact hno
  case invokevirtual ix =>
    unfold tkm
    split
    · refine bf_rel ?_ hno
      dsimp only
      unfold hdR
      split
      · refine bf_rel ?_ hno
        unfold t3
        split
        · exact hc _ _ _ _ _ (fun _ _ => qV _ _ _ (hk _ _ _ _))
        · exact hc _ _ _ _ _ (fun _ _ => qI _ _ _ (fun _ => hk _ _ _ _))
        · exact hc _ _ _ _ _ (fun _ _ => qJ _ _ _ (fun _ => hk _ _ _ _))
        · exact hc _ _ _ _ _ (fun _ _ => qO _ _ _ _ _ (hk _ _ _ _) (fun _ => hk _ _ _ _))
      · exact hno
    · exact hno
  case invokestatic ix =>
    unfold xk
    split
    · unfold pCpy; split; exact bf_rel (if_rel hno (hk _ _ _ _)) hno; exact hno
    · unfold pII; split; exact bf_rel (hk _ _ _ _) hno; exact hno
    · unfold pII; split; exact bf_rel (hk _ _ _ _) hno; exact hno
    · unfold pI; split; exact bf_rel (hk _ _ _ _) hno; exact hno
    · unfold tkm
      split
      · refine bf_rel ?_ hno
        dsimp only
        unfold t3
        split
        · exact hc _ _ _ _ _ (fun _ _ => qV _ _ _ (hk _ _ _ _))
        · exact hc _ _ _ _ _ (fun _ _ => qI _ _ _ (fun _ => hk _ _ _ _))
        · exact hc _ _ _ _ _ (fun _ _ => qJ _ _ _ (fun _ => hk _ _ _ _))
        · exact hc _ _ _ _ _ (fun _ _ => qO _ _ _ _ _ (hk _ _ _ _) (fun _ => hk _ _ _ _))
      · exact hno
  case invokespecial ix =>
    unfold nk
    split
    · unfold pR; split; exact bf_rel (hk _ _ _ _) hno; exact hno
    · unfold tkm
      split
      · refine bf_rel ?_ hno
        dsimp only
        unfold hdR
        split
        · exact hc _ _ _ _ _ (fun _ _ => qV _ _ _ (hk _ _ _ _))
        · exact hno
      · exact hno
