/-! the machine behind the constructors: 137 cells stand, Act.lines is the only row of references that changes -/
abbrev LN : Type := Nat → Option Nat
abbrev H2 : Type := Hp LN
def rd2 (ln : LN) (a i : Nat) : Option Nat := bif Nat.beq a 18 then ln i else Rc a i
def wr2 (ln : LN) (a i v : Nat) : Option LN := bif Nat.beq a 18 then some (fun j => if j = i then some v else ln j) else none
theorem hwr2 : ∀ (r : LN) (a i v : Nat) (r' : LN), wr2 r a i v = some r' → ∀ b j, rd2 r' b j = if b = a ∧ j = i then some v else rd2 r b j := by
  intro r a i v r' h b j
  unfold wr2 at h
  cases hq : Nat.beq a 18 with
  | false => rw [hq] at h; cases h
  | true =>
    rw [hq] at h
    cases h
    obtain rfl := nbeq hq
    unfold rd2
    cases hb : Nat.beq b 18 with
    | true =>
      obtain rfl := nbeq hb
      by_cases e : j = i
      · rw [if_pos ⟨rfl, e⟩]
        show (if j = i then some v else r j) = some v
        rw [if_pos e]
      · rw [if_neg (fun z => e z.2)]
        show (if j = i then some v else r j) = r j
        rw [if_neg e]
    | false =>
      have : b ≠ 18 := fun z => by rw [z] at hb; cases hb
      rw [if_neg (fun z => this z.1)]
      rfl
abbrev XS : Type := Nat × (Nat → Int32)
abbrev E (X : XS) (M pc : Nat) (ls : LV) (st : List Value) (h : H2) (Q : Option Value → H2 → Prop) : Prop := Ev cdT X.1 X.2 137 rd2 wr2 M pc ls st h Q
abbrev EC (X : XS) (M : Nat) (as : List Value) (h : H2) (Q : Option Value → H2 → Prop) : Prop := Ev cdT X.1 X.2 137 rd2 wr2 M 0 (entm M as) [] h Q
abbrev cI (X : XS) (M : Nat) (as : List Value) (h : H2) (f : Int32 → H2 → Prop) : Prop := EC X M as h (fun v h1 => rI v False fun x => f x h1)
abbrev cJ (X : XS) (M : Nat) (as : List Value) (h : H2) (f : Int64 → H2 → Prop) : Prop := EC X M as h (fun v h1 => rJ v False fun x => f x h1)
abbrev cV (X : XS) (M : Nat) (as : List Value) (h : H2) (f : H2 → Prop) : Prop := EC X M as h (fun v h1 => rV v False (f h1))
abbrev cO (X : XS) (M : Nat) (as : List Value) (h : H2) (fn : H2 → Prop) (f : Nat → H2 → Prop) : Prop := EC X M as h (fun v h1 => rO v False (fn h1) fun x => f x h1)
def hg (h : H2) (a i : Nat) : Int32 := h.2.1 a i
def gJ (h : H2) (a i : Nat) : Int64 := h.2.2.1 a i
def sI (h : H2) (a i : Nat) (x : Int32) : H2 := hI h a (upd (h.2.1 a) i x)
def sJ (h : H2) (a i : Nat) (x : Int64) : H2 := hJ h a i x
def sL (h : H2) (i v : Nat) : H2 := (h.1, h.2.1, h.2.2.1, fun j => if j = i then some v else h.2.2.2 j)
def sC (h : H2) (a a0 sp dp n : Nat) : H2 := hI h a (va_cpy (h.2.1 a0) (h.2.1 a) sp dp n)
