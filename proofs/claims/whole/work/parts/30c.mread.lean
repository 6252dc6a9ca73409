/-! reading, as the reference does it -/
def mH (g : H2) (s p : Nat) (w : Int32) (V : Nat → Int32) : H2 := (g.1, fun b j => if b = 86 ∧ j = 13 then nI (s + p) else if b = 86 ∧ j = 15 then w else if (90 ≤ b ∧ b < 97) ∧ j = 24 then V (b - 90) else g.2.1 b j, g.2.2)
theorem hg_mH (g : H2) (s p : Nat) (w : Int32) (V : Nat → Int32) (b j : Nat) : hg (mH g s p w V) b j = if b = 86 ∧ j = 13 then nI (s + p) else if b = 86 ∧ j = 15 then w else if (90 ≤ b ∧ b < 97) ∧ j = 24 then V (b - 90) else hg g b j := rfl
theorem mH_13 (g : H2) (s p : Nat) (w : Int32) (V : Nat → Int32) : hg (mH g s p w V) 86 13 = nI (s + p) := by rw [hg_mH, if_pos ⟨rfl, rfl⟩]
theorem mH_15 (g : H2) (s p : Nat) (w : Int32) (V : Nat → Int32) : hg (mH g s p w V) 86 15 = w := by rw [hg_mH, if_neg (by decide), if_pos ⟨rfl, rfl⟩]
theorem mH_v (g : H2) (s p : Nat) (w : Int32) (V : Nat → Int32) (i : Nat) (hi : i < 7) : hg (mH g s p w V) (90 + i) 24 = V i := by
  rw [hg_mH, if_neg (by omega), if_neg (by omega), if_pos ⟨by omega, rfl⟩]
  congr 1
  omega
theorem mH_o (g : H2) (s p : Nat) (w : Int32) (V : Nat → Int32) (b j : Nat) (h1 : ¬ (b = 86 ∧ j = 13)) (h2 : ¬ (b = 86 ∧ j = 15)) (h3 : ¬ ((90 ≤ b ∧ b < 97) ∧ j = 24)) : hg (mH g s p w V) b j = hg g b j := by
  rw [hg_mH, if_neg h1, if_neg h2, if_neg h3]
theorem mH_sp (g : H2) (s p q : Nat) (w : Int32) (V : Nat → Int32) : sI (mH g s p w V) 86 13 (nI (s + q)) = mH g s q w V := by
  refine H2_ext ?_ ?_ ?_ <;> try rfl
  intro b j
  rw [hg_sI, hg_mH, hg_mH]
  by_cases e : b = 86 ∧ j = 13
  · rw [if_pos e, if_pos e]
  · rw [if_neg e, if_neg e, if_neg e]
theorem mH_sw (g : H2) (s p : Nat) (w w' : Int32) (V : Nat → Int32) : sI (mH g s p w V) 86 15 w' = mH g s p w' V := by
  refine H2_ext ?_ ?_ ?_ <;> try rfl
  intro b j
  rw [hg_sI, hg_mH, hg_mH]
  by_cases e : b = 86 ∧ j = 15
  · rw [if_pos e, if_neg (by omega), if_pos e]
  · rw [if_neg e, if_neg e, if_neg e]
theorem mH_sv (g : H2) (s p : Nat) (w : Int32) (V : Nat → Int32) (i : Nat) (hi : i < 7) (x : Int32) : sI (mH g s p w V) (90 + i) 24 x = mH g s p w (upF V i x) := by
  refine H2_ext ?_ ?_ ?_ <;> try rfl
  intro b j
  rw [hg_sI, hg_mH, hg_mH]
  by_cases e : b = 90 + i ∧ j = 24
  · obtain ⟨rfl, rfl⟩ := e
    rw [if_pos ⟨rfl, rfl⟩, if_neg (by omega), if_neg (by omega), if_pos ⟨by omega, rfl⟩, show 90 + i - 90 = i by omega, upF_e]
  · rw [if_neg e]
    by_cases e1 : (90 ≤ b ∧ b < 97) ∧ j = 24
    · rw [if_neg (by omega), if_neg (by omega), if_pos e1, if_neg (by omega), if_neg (by omega), if_pos e1, upF_n (by omega)]
    · rw [if_neg e1, if_neg e1]
def RmOk (g : H2) (f : Nat → Int32) (n s : Nat) : Prop := n ≤ 60 ∧ s + n ≤ 240 ∧ hg g 86 14 = nI (s + n) ∧ ∀ j, j < n → hg g 89 (s + j) = f j
theorem e175 (X : XS) (Q : Option Value → H2 → Prop) (g : H2) (f : Nat → Int32) (n s : Nat) (ok : RmOk g f n s) (p : Nat) (w : Int32) (V : Nat → Int32) (hp : p ≤ n) : EC X 175 [.ref 86] (mH g s p w V) Q ↔ Q (some (.int (cdx f n p))) (mH g s p w V) := by
  obtain ⟨hn, hsn, e14, e89⟩ := ok
  have hk : (nI (s + p)).toNatClampNeg = s + p := nI_clamp (by omega)
  rw [g175, mH_13, mH_o _ _ _ _ _ _ _ (by omega) (by omega) (by omega), e14, hk]
  unfold cdx
  by_cases c : p < n
  · rw [if_neg (nI_ge (by omega) (by omega)), if_neg (bI (s + p) 240 (by omega) (by omega)), if_pos c, mH_o _ _ _ _ _ _ _ (by omega) (by omega) (by omega), e89 p c]
  · rw [if_pos (nI_le (by omega) (by omega)), if_neg c]
theorem dgt (x : Int32) : (∃ a : Nat, a < 10 ∧ x = nI (48 + a) ∧ on1 3 10 x = some a ∧ (48 ≤ x ∧ x ≤ 57)) ∨ (on1 3 10 x = none ∧ ¬ (48 ≤ x ∧ x ≤ 57)) := by
  have tb : ∀ k, k < 10 → tbl 3 k = nI (48 + k) := by decide
  have e48 : (48 : Int32) = nI 48 := by decide
  have e57 : (57 : Int32) = nI 57 := by decide
  by_cases c : 48 ≤ x ∧ x ≤ 57
  · left
    obtain ⟨j, hj, rfl⟩ := nI_of (i_nlt.mpr (Int32.le_trans (by decide) c.1))
    have c1 := c.1
    have c2 := c.2
    rw [e48, nI_leI (by omega) hj] at c1
    rw [e57, nI_leI hj (by omega)] at c2
    refine ⟨j - 48, by omega, by congr 1; omega, ?_, c⟩
    refine frs_some (p := fun k => decide (nI j = tbl 3 k)) (decide_eq_true ?_) (fun i hi => decide_eq_false ?_) (by omega)
    · rw [tb _ (by omega)]
      congr 1
      omega
    · rw [tb _ (by omega), nI_eq hj (by omega)]
      omega
  · right
    refine ⟨frs_none (fun k hk => decide_eq_false (fun z => c ?_)), c⟩
    rw [z, tb k hk, e48, e57]
    exact ⟨nI_le (by omega) (by omega), nI_le (by omega) (by omega)⟩
def vN (o : Option Nat) : Int32 := match o with
  | none => 0
  | some x => nI x
def wN (o : Option Nat) : Int32 := match o with
  | none => 1
  | some _ => 0
theorem e176 (X : XS) (Q : Option Value → H2 → Prop) (g : H2) (f : Nat → Int32) (n s : Nat) (ok : RmOk g f n s) (p : Nat) (V : Nat → Int32) (hp : p ≤ n) : EC X 176 [.ref 86] (mH g s p 0 V) Q ↔ Q (some (.int (vN (pNm f n p).2))) (mH g s (pNm f n p).1 (wN (pNm f n p).2) V) := by
  have hn := ok.1
  have hsn := ok.2.1
  have ca := fun p (R : Option Value → H2 → Prop) hp => e175 X R g f n s ok p 0 V hp
  have b0 : b01 ((0 : Int32) ||| 0) = true := by decide
  have b1 : b01 ((0 : Int32) ||| 1) = true := by decide
  have o0 : ((0 : Int32) ||| 0) = 0 := by decide
  have o1 : ((0 : Int32) ||| 1) = 1 := by decide
  have n2 : ¬ (2 : Int32) ≤ 0 := by decide
  have n3 : ¬ (2 : Int32) ≤ 1 := by decide
  have n02 : ¬ (2 : Int32) = 0 := by decide
  have t22 : (2 : Int32) ≤ 2 := by decide
  have i01 : (0 : Int32) + 1 = 1 := by decide
  have i12 : (1 : Int32) + 1 = 2 := by decide
  have e48 : (48 : Int32) = nI 48 := by decide
  have e10 : (10 : Int32) = nI 10 := by decide
  -- after two digits
  have two : ∀ p v, E X 176 4 [some (.ref 86), some (.int 2), some (.int v)] [] (mH g s p 0 V) Q ↔ Q (some (.int v)) (mH g s p 0 V) := by
    intro p v
    rw [g176_4, if_pos t22, if_pos n02, mH_15, b0, o0, mH_sw]
    exact Iff.rfl
  -- one step
  have go : ∀ p (l1 v : Int32), ¬ (2 : Int32) ≤ l1 → p ≤ n → (E X 176 4 [some (.ref 86), some (.int l1), some (.int v)] [] (mH g s p 0 V) Q ↔ (match on1 3 10 (cdx f n p) with
      | none => if ¬ l1 = 0 then Q (some (.int v)) (mH g s p 0 V) else Q (some (.int v)) (mH g s p 1 V)
      | some a => E X 176 4 [some (.ref 86), some (.int (l1 + 1)), some (.int (10 * v + nI a))] [] (mH g s (p + 1) 0 V) Q)) := by
    intro p l1 v hl hp
    rw [g176_4, if_neg hl]
    show EC X 175 _ _ _ ↔ _
    rw [ca p _ hp, rI_i]
    dsimp only
    show EC X 168 _ _ _ ↔ _
    rw [e168, rI_i]
    dsimp only
    rcases dgt (cdx f n p) with ⟨a, ha, ex, eo, er⟩ | ⟨eo, er⟩
    · rw [b2i_t er, if_neg n1_0, eo]
      show EC X 175 _ _ _ ↔ _
      rw [ca p _ hp, rI_i]
      dsimp only
      have e3 : 10 * v + nI (48 + a) - 48 = 10 * v + nI a := by
        rw [e48, ← nI_add, Int32.add_comm (nI 48) (nI a), ← Int32.add_assoc, Int32.add_sub_cancel]
      rw [mH_13, nI_1, Nat.add_assoc, mH_sp, ex, e3]
    · rw [b2i_f er, if_pos rfl, eo, mH_15, b0, b1, o0, o1, mH_sw, mH_sw]
      exact Iff.rfl
  rw [g176, go p 0 0 n2 hp]
  unfold pNm
  cases h1 : on1 3 10 (cdx f n p) with
  | none =>
    dsimp only
    rw [if_neg (fun z => z rfl)]
    exact Iff.rfl
  | some a =>
    have lt := on1_n tb3 h1
    dsimp only
    rw [i01, go (p + 1) 1 _ n3 (by omega)]
    have v1 : (10 : Int32) * 0 + nI a = nI a := by
      rw [Int32.mul_zero, Int32.zero_add]
    cases h2 : on1 3 10 (cdx f n (p + 1)) with
    | none =>
      dsimp only
      rw [if_pos n1_0, v1]
      exact Iff.rfl
    | some b =>
      dsimp only
      rw [i12, v1, two, e10, pk_mul, nI_add]
      exact Iff.rfl
theorem e177_0 (X : XS) (Q : Option Value → H2 → Prop) (g : H2) (f : Nat → Int32) (n s : Nat) (ok : RmOk g f n s) (p : Nat) (V : Nat → Int32) (hp : p ≤ n) (c : Int32) : EC X 177 [.ref 86, .int c] (mH g s p 0 V) Q ↔ if cdx f n p = c then Q none (mH g s (p + 1) 0 V) else Q none (mH g s p 1 V) := by
  rw [g177]
  show EC X 175 _ _ _ ↔ _
  rw [e175 X _ g f n s ok p 0 V hp, rI_i]
  dsimp only
  rw [mH_15, mH_13, mH_sw, nI_1, Nat.add_assoc, mH_sp]
  by_cases e : cdx f n p = c
  · rw [if_neg (fun z => z e), if_neg (fun z => z rfl), if_pos e]
  · rw [if_pos e, if_neg e]
theorem e177_1 (X : XS) (Q : Option Value → H2 → Prop) (g : H2) (f : Nat → Int32) (n s : Nat) (ok : RmOk g f n s) (p : Nat) (V : Nat → Int32) (hp : p ≤ n) (c : Int32) : EC X 177 [.ref 86, .int c] (mH g s p 1 V) Q ↔ Q none (mH g s p 1 V) := by
  rw [g177]
  show EC X 175 _ _ _ ↔ _
  rw [e175 X _ g f n s ok p 1 V hp, rI_i]
  dsimp only
  rw [mH_15, if_pos n1_0, ite_self, mH_sw]
theorem at_s {s p : Nat} : nI (s + p) - nI s = nI p := by
  rw [pk_sub (by omega)]
  congr 1
  omega
/-- once it is wrong -/
theorem e178w (X : XS) (Q : Option Value → H2 → Prop) (g : H2) (f : Nat → Int32) (n s : Nat) (ok : RmOk g f n s) (p : Nat) (V : Nat → Int32) (hp : p ≤ n) (u : Int32) (hq : Q (some (.int (nI p))) (mH g s p 1 V)) :
    E X 178 164 [some (.ref 86), some (.int (nI s)), some (.int u), some (.int 24), none, none] [] (mH g s p 1 V) Q ∧ E X 178 187 [some (.ref 86), some (.int (nI s)), some (.int u), some (.int 24), none, none] [] (mH g s p 1 V) Q ∧ E X 178 210 [some (.ref 86), some (.int (nI s)), some (.int u), some (.int 24), none, none] [] (mH g s p 1 V) Q := by
  have c : E X 178 210 [some (.ref 86), some (.int (nI s)), some (.int u), some (.int 24), none, none] [] (mH g s p 1 V) Q := by
    rw [g178_210, mH_15, if_neg n1_0, mH_13, at_s]
    exact hq
  have b : E X 178 187 [some (.ref 86), some (.int (nI s)), some (.int u), some (.int 24), none, none] [] (mH g s p 1 V) Q := by
    rw [g178_187]
    show EC X 177 _ _ _
    rw [e177_1 X _ g f n s ok p V hp, rV_n]
    dsimp only
    rw [mH_15, if_pos n1_0]
    exact c
  refine ⟨?_, b, c⟩
  rw [g178_164]
  show EC X 177 _ _ _
  rw [e177_1 X _ g f n s ok p V hp, rV_n]
  dsimp only
  rw [mH_15, if_pos n1_0]
  exact b
theorem e174 (X : XS) (h : H2) (Q : Option Value → H2 → Prop) (x : Int32) : EC X 174 [.int x] h Q ↔ Q (some (.int (oN (on1 4 4 x)))) h := by
  rw [g174]
  by_cases c0 : x = 100
  · subst c0; rw [if_pos rfl]; exact Iff.rfl
  rw [if_neg c0]
  by_cases c1 : x = 101
  · subst c1; rw [if_pos rfl]; exact Iff.rfl
  rw [if_neg c1]
  by_cases c2 : x = 112
  · subst c2; rw [if_pos rfl]; exact Iff.rfl
  rw [if_neg c2]
  by_cases c3 : x = 118
  · subst c3; rw [if_pos rfl]; exact Iff.rfl
  rw [if_neg c3]
  have : on1 4 4 x = none := frs_none (fun k hk => decide_eq_false (by
    have : k = 0 ∨ k = 1 ∨ k = 2 ∨ k = 3 := by omega
    rcases this with rfl | rfl | rfl | rfl
    · exact c0
    · exact c2
    · exact c1
    · exact c3))
  rw [this]
  exact Iff.rfl
theorem e173 (X : XS) (h : H2) (Q : Option Value → H2 → Prop) (x : Int32) : EC X 173 [.int x] h Q ↔ Q (some (.int (oN (on1 1 4 x)))) h := by
  rw [g173]
  by_cases c0 : x = 99
  · subst c0; rw [if_pos rfl]; exact Iff.rfl
  rw [if_neg c0]
  by_cases c1 : x = 107
  · subst c1; rw [if_pos rfl]; exact Iff.rfl
  rw [if_neg c1]
  by_cases c2 : x = 109
  · subst c2; rw [if_pos rfl]; exact Iff.rfl
  rw [if_neg c2]
  by_cases c3 : x = 115
  · subst c3; rw [if_pos rfl]; exact Iff.rfl
  rw [if_neg c3]
  have : on1 1 4 x = none := frs_none (fun k hk => decide_eq_false (by
    have : k = 0 ∨ k = 1 ∨ k = 2 ∨ k = 3 := by omega
    rcases this with rfl | rfl | rfl | rfl
    · exact c2
    · exact c3
    · exact c0
    · exact c1))
  rw [this]
  exact Iff.rfl
theorem knd (x : Int32) : (x = 42 ∧ on1 2 5 x = some 4) ∨ (¬ x = 42 ∧ ∃ a : Nat, a < 4 ∧ x = nI (48 + a) ∧ on1 2 5 x = some a ∧ (48 ≤ x ∧ x ≤ 51)) ∨ (¬ x = 42 ∧ on1 2 5 x = none ∧ ¬ (48 ≤ x ∧ x ≤ 51)) := by
  have tb : ∀ k, k < 4 → tbl 2 k = nI (48 + k) := by decide
  have t4 : tbl 2 4 = 42 := by decide
  have e48 : (48 : Int32) = nI 48 := by decide
  have e51 : (51 : Int32) = nI 51 := by decide
  by_cases c42 : x = 42
  · left
    subst c42
    exact ⟨rfl, by decide⟩
  · right
    by_cases c : 48 ≤ x ∧ x ≤ 51
    · left
      refine ⟨c42, ?_⟩
      obtain ⟨j, hj, rfl⟩ := nI_of (i_nlt.mpr (Int32.le_trans (by decide) c.1))
      have c1 := c.1
      have c2 := c.2
      rw [e48, nI_leI (by omega) hj] at c1
      rw [e51, nI_leI hj (by omega)] at c2
      refine ⟨j - 48, by omega, by congr 1; omega, ?_, c⟩
      refine frs_some (p := fun k => decide (nI j = tbl 2 k)) (decide_eq_true ?_) (fun i hi => decide_eq_false ?_) (by omega)
      · rw [tb _ (by omega)]
        congr 1
        omega
      · rw [tb _ (by omega), nI_eq hj (by omega)]
        omega
    · right
      refine ⟨c42, frs_none (fun k hk => decide_eq_false (fun z => ?_)), c⟩
      by_cases k4 : k = 4
      · subst k4
        rw [t4] at z
        exact c42 z
      · apply c
        rw [z, tb k (by omega), e48, e51]
        exact ⟨nI_le (by omega) (by omega), nI_le (by omega) (by omega)⟩
