/-! lines of the act -/
def inF (h : H2) (l : Nat) (d : Int32) : Bool := decide ((hg h 93 l ≤ d ∧ d ≤ hg h 94 l) ∧ (hg h 96 l = -9 ∨ d < hg h 96 l))
def stB (h : H2) (l : Nat) (v k s w d : Int32) : Bool := decide (hg h 90 l = v ∧ (hg h 91 l = 4 ∨ hg h 91 l = k) ∧ (hg h 92 l = -9 ∨ hg h 92 l < s) ∧ inF h l d = true ∧ (hg h 95 l >>> (w &&& 31)) &&& 1 = 0)
/-- the object a tells the reference's line l -/
def LnAt (h : H2) (a l : Nat) : Prop := 137 ≤ a ∧ a < h.1 ∧ (∀ i, i < 7 → hg h a i = hg h (90 + i) l) ∧ bt (hg h 95 l) 4 = false
theorem okL (L : Nat) {n a : Nat} (h1 : 137 ≤ a) (h2 : a < n) : okT L 137 n a 7 = true := by
  have e : shT L a = (7, 7) := by
    unfold shT
    have b1 : Nat.beq a 0 = false := by
      cases hh : Nat.beq a 0 with
      | false => rfl
      | true => have := Nat.eq_of_beq_eq_true hh; omega
    have b2 : Nat.blt a 137 = false := by
      cases hh : Nat.blt a 137 with
      | false => rfl
      | true => have := Nat.blt_eq.mp hh; omega
    rw [b1, b2]
    rfl
  unfold okT
  rw [e, show Nat.blt a n = true from Nat.blt_eq.mpr h2, Bool.or_true]
  rfl
theorem com137 {a : Nat} (h1 : 137 ≤ a) (i : Nat) : comp a i = 2 := by
  have nb : ∀ b, b < 137 → Nat.beq a b = false := by
    intro b hb
    cases hh : Nat.beq a b with
    | false => rfl
    | true => have := Nat.eq_of_beq_eq_true hh; omega
  unfold comp
  rw [nb 86 (by omega), nb 62 (by omega), nb 74 (by omega), nb 19 (by omega), show Nat.ble 137 a = true from Nat.ble_eq.mpr h1]
  rfl
theorem e41 (X : XS) (h : H2) (Q : Option Value → H2 → Prop) (a l : Nat) (la : LnAt h a l) (d : Int32) : EC X 41 [.ref a, .int d] h Q ↔ Q (some (.int (bz (inF h l d)))) h := by
  obtain ⟨a1, a2, ar, -⟩ := la
  have ok := okL X.1 a1 a2
  rw [g41]
  simp only [ok, cond_true, cI, e161, rI_i, b2i_0, ar 3 (by omega), ar 4 (by omega), ar 6 (by omega)]
  by_cases c1 : hg h 93 l ≤ d ∧ d ≤ hg h 94 l
  · rw [if_neg (fun z => z c1)]
    by_cases c2 : hg h 96 l = -9
    · rw [if_pos c2, show inF h l d = true from decide_eq_true ⟨c1, Or.inl c2⟩]
      exact Iff.rfl
    · rw [if_neg c2]
      by_cases c3 : hg h 96 l ≤ d
      · rw [if_pos c3, show inF h l d = false from decide_eq_false (fun z => z.2.elim c2 (fun q => absurd q (Int32.not_lt.mpr c3)))]
        exact Iff.rfl
      · rw [if_neg c3, show inF h l d = true from decide_eq_true ⟨c1, Or.inr (Int32.not_le.mp c3)⟩]
        exact Iff.rfl
  · rw [if_pos c1, show inF h l d = false from decide_eq_false (fun z => c1 z.1)]
    exact Iff.rfl
theorem e184 (X : XS) (h : H2) (Q : Option Value → H2 → Prop) (l : Nat) (hl : l < 25) (d : Int32) : EC X 184 [.ref 86, .int (nI l), .int d] h Q ↔ Q (some (.int (bz (inF h l d)))) h := by
  have hk : (nI l).toNatClampNeg = l := nI_clamp (by omega)
  have bk := bI l 25 hl (by omega)
  rw [g184]
  simp only [hk, bk, if_false, cI, e168, rI_i, b2i_0]
  by_cases c1 : hg h 93 l ≤ d ∧ d ≤ hg h 94 l
  · rw [if_neg (fun z => z c1)]
    by_cases c2 : hg h 96 l = -9
    · rw [if_pos c2, show inF h l d = true from decide_eq_true ⟨c1, Or.inl c2⟩]
      exact Iff.rfl
    · rw [if_neg c2]
      by_cases c3 : hg h 96 l ≤ d
      · rw [if_pos c3, show inF h l d = false from decide_eq_false (fun z => z.2.elim c2 (fun q => absurd q (Int32.not_lt.mpr c3)))]
        exact Iff.rfl
      · rw [if_neg c3, show inF h l d = true from decide_eq_true ⟨c1, Or.inr (Int32.not_le.mp c3)⟩]
        exact Iff.rfl
  · rw [if_pos c1, show inF h l d = false from decide_eq_false (fun z => c1 z.1)]
    exact Iff.rfl
theorem e42 (X : XS) (h : H2) (Q : Option Value → H2 → Prop) (a l : Nat) (la : LnAt h a l) (v k s w d : Int32) : EC X 42 [.ref a, .int v, .int k, .int s, .int w, .int d] h Q ↔ Q (some (.int (bz (stB h l v k s w d)))) h := by
  have la' := la
  obtain ⟨a1, a2, ar, -⟩ := la
  have ok := okL X.1 a1 a2
  rw [g42]
  simp only [ok, cond_true, cI, e41 X h _ a l la', rI_i, g42_33, ar 0 (by omega), ar 1 (by omega), ar 2 (by omega), ar 5 (by omega), bz_0]
  have no : (stB h l v k s w d = true → False) → (Q (some (.int 0)) h ↔ Q (some (.int (bz (stB h l v k s w d)))) h) := by
    intro z
    have : stB h l v k s w d = false := by
      cases hh : stB h l v k s w d with
      | true => exact (z hh).elim
      | false => rfl
    rw [this]
    exact Iff.rfl
  have fin : hg h 90 l = v → (hg h 91 l = 4 ∨ hg h 91 l = k) → inF h l d = true → ((if hg h 92 l = -9 then (if ¬ (hg h 95 l >>> (w &&& 31)) &&& 1 = 0 then Q (some (.int 0)) h else Q (some (.int 1)) h) else if s ≤ hg h 92 l then Q (some (.int 0)) h else (if ¬ (hg h 95 l >>> (w &&& 31)) &&& 1 = 0 then Q (some (.int 0)) h else Q (some (.int 1)) h)) ↔ Q (some (.int (bz (stB h l v k s w d)))) h) := by
    intro f1 f2 f3
    by_cases c5 : (hg h 95 l >>> (w &&& 31)) &&& 1 = 0
    · rw [if_neg (show ¬ ¬ (hg h 95 l >>> (w &&& 31)) &&& 1 = 0 from fun z => z c5)]
      by_cases c4 : hg h 92 l = -9
      · rw [if_pos c4, show stB h l v k s w d = true from decide_eq_true ⟨f1, f2, Or.inl c4, f3, c5⟩]
        exact Iff.rfl
      · rw [if_neg c4]
        by_cases c6 : s ≤ hg h 92 l
        · rw [if_pos c6]
          refine no (fun z => ?_)
          rcases (of_decide_eq_true z).2.2.1 with q | q
          · exact c4 q
          · exact absurd q (Int32.not_lt.mpr c6)
        · rw [if_neg c6, show stB h l v k s w d = true from decide_eq_true ⟨f1, f2, Or.inr (Int32.not_le.mp c6), f3, c5⟩]
          exact Iff.rfl
    · rw [if_pos c5, ite_self, ite_self]
      exact no (fun z => c5 (of_decide_eq_true z).2.2.2.2)
  by_cases c1 : inF h l d = true
  · rw [if_neg (fun z => z c1)]
    by_cases c2 : hg h 90 l = v
    · rw [if_neg (fun z => z c2)]
      by_cases c3 : hg h 91 l = 4
      · rw [if_pos c3]
        exact fin c2 (Or.inl c3) c1
      · rw [if_neg c3]
        by_cases c4 : hg h 91 l = k
        · rw [if_neg (fun z => z c4)]
          exact fin c2 (Or.inr c4) c1
        · rw [if_pos c4]
          exact no (fun z => (of_decide_eq_true z).2.1.elim c3 c4)
    · rw [if_pos c2]
      exact no (fun z => c2 (of_decide_eq_true z).1)
  · rw [if_pos c1]
    exact no (fun z => c1 (of_decide_eq_true z).2.2.2.1)
theorem e185 (X : XS) (h : H2) (Q : Option Value → H2 → Prop) (l : Nat) (hl : l < 25) (b4 : bt (hg h 95 l) 4 = false) (v k s w d : Int32) : EC X 185 [.ref 86, .int (nI l), .int v, .int k, .int s, .int w, .int d] h Q ↔ Q (some (.int (bz (stB h l v k s w d)))) h := by
  have hk : (nI l).toNatClampNeg = l := nI_clamp (by omega)
  have bk := bI l 25 hl (by omega)
  have no : (stB h l v k s w d = true → False) → (Q (some (.int 0)) h ↔ Q (some (.int (bz (stB h l v k s w d)))) h) := by
    intro z
    have : stB h l v k s w d = false := by
      cases hh : stB h l v k s w d with
      | true => exact (z hh).elim
      | false => rfl
    rw [this]
    exact Iff.rfl
  have n1 : ¬ (1 : Int32) = 0 := n1_0
  rw [g185]
  simp only [g185_56, g185_30, g185_52, g185_57, hk, bk, if_false, if_true, n1, cI, e184 X h _ l hl, rI_i, bz_0]
  have fin : hg h 90 l = v → (hg h 91 l = 4 ∨ hg h 91 l = k) → (hg h 92 l = -9 ∨ hg h 92 l < s) → ((if ¬ inF h l d = true then Q (some (.int 0)) h else if w = 4 then Q (some (.int 1)) h else if ¬ (hg h 95 l >>> (w &&& 31)) &&& 1 = 0 then Q (some (.int 0)) h else Q (some (.int 1)) h) ↔ Q (some (.int (bz (stB h l v k s w d)))) h) := by
    intro f1 f2 f3
    by_cases c1 : inF h l d = true
    · rw [if_neg (fun z => z c1)]
      by_cases c5 : (hg h 95 l >>> (w &&& 31)) &&& 1 = 0
      · rw [if_neg (show ¬ ¬ (hg h 95 l >>> (w &&& 31)) &&& 1 = 0 from fun z => z c5), ite_self, show stB h l v k s w d = true from decide_eq_true ⟨f1, f2, f3, c1, c5⟩]
        exact Iff.rfl
      · have nw : ¬ w = 4 := by
          intro z
          apply c5
          rw [z, show (4 : Int32) = nI 4 by decide, bt_shr _ (by omega), b4]
          rfl
        rw [if_neg nw, if_pos c5]
        exact no (fun z => c5 (of_decide_eq_true z).2.2.2.2)
    · rw [if_pos c1]
      exact no (fun z => c1 (of_decide_eq_true z).2.2.2.1)
  by_cases c2 : hg h 90 l = v
  · rw [if_neg (fun z => z c2)]
    have ab : (hg h 91 l = 4 ∨ hg h 91 l = k) → ((if hg h 92 l = -9 then (if ¬ inF h l d = true then Q (some (.int 0)) h else if w = 4 then Q (some (.int 1)) h else if ¬ (hg h 95 l >>> (w &&& 31)) &&& 1 = 0 then Q (some (.int 0)) h else Q (some (.int 1)) h) else if s ≤ hg h 92 l then Q (some (.int 0)) h else (if ¬ inF h l d = true then Q (some (.int 0)) h else if w = 4 then Q (some (.int 1)) h else if ¬ (hg h 95 l >>> (w &&& 31)) &&& 1 = 0 then Q (some (.int 0)) h else Q (some (.int 1)) h)) ↔ Q (some (.int (bz (stB h l v k s w d)))) h) := by
      intro f2
      by_cases c4 : hg h 92 l = -9
      · rw [if_pos c4]
        exact fin c2 f2 (Or.inl c4)
      · rw [if_neg c4]
        by_cases c6 : s ≤ hg h 92 l
        · rw [if_pos c6]
          refine no (fun z => ?_)
          rcases (of_decide_eq_true z).2.2.1 with q | q
          · exact c4 q
          · exact absurd q (Int32.not_lt.mpr c6)
        · rw [if_neg c6]
          exact fin c2 f2 (Or.inr (Int32.not_le.mp c6))
    by_cases c3 : hg h 91 l = 4
    · rw [if_pos c3]
      exact ab (Or.inl c3)
    · rw [if_neg c3]
      by_cases c4 : hg h 91 l = k
      · rw [if_neg (fun z => z c4)]
        exact ab (Or.inr c4)
      · rw [if_pos c4]
        exact no (fun z => (of_decide_eq_true z).2.1.elim c3 c4)
  · rw [if_pos c2]
    exact no (fun z => c2 (of_decide_eq_true z).1)
/-- the first of the first n that is so -/
def frs (p : Nat → Bool) : Nat → Option Nat
  | 0 => none
  | n + 1 => match frs p n with
    | some b => some b
    | none => if p n = true then some n else none
theorem frs_none {p : Nat → Bool} : ∀ {n : Nat}, (∀ j, j < n → p j = false) → frs p n = none := by
  intro n
  induction n with
  | zero => intro _; rfl
  | succ n ih =>
    intro h
    unfold frs
    rw [ih (fun j hj => h j (by omega)), h n (by omega)]
    rfl
theorem frs_some {p : Nat → Bool} {k : Nat} (hk : p k = true) (h : ∀ j, j < k → p j = false) : ∀ {n : Nat}, k < n → frs p n = some k := by
  intro n
  induction n with
  | zero => intro h; omega
  | succ n ih =>
    intro hn
    unfold frs
    by_cases e : k = n
    · subst e
      rw [frs_none h]
      exact if_pos hk
    · rw [ih (by omega)]
theorem frs_is {p : Nat → Bool} : ∀ {n b : Nat}, frs p n = some b → b < n ∧ p b = true ∧ ∀ j, j < b → p j = false := by
  intro n
  induction n with
  | zero => intro b h; cases h
  | succ n ih =>
    intro b h
    unfold frs at h
    cases hw : frs p n with
    | some b' =>
      rw [hw] at h
      cases h
      obtain ⟨q1, q2, q3⟩ := ih hw
      exact ⟨by omega, q2, q3⟩
    | none =>
      rw [hw] at h
      dsimp only at h
      by_cases e : p n = true
      · rw [if_pos e] at h
        cases h
        refine ⟨by omega, e, fun j hj => ?_⟩
        cases hp : p j with
        | false => rfl
        | true =>
          exfalso
          have : ∀ {m}, j < m → frs p m ≠ none := by
            intro m
            induction m with
            | zero => intro h; omega
            | succ m im =>
              intro hm
              unfold frs
              by_cases ej : j = m
              · subst ej
                cases hf : frs p j with
                | some q => intro z; cases z
                | none => dsimp only; rw [if_pos hp]; intro z; cases z
              · cases hf : frs p m with
                | some q => intro z; cases z
                | none => exact absurd hf (im (by omega))
          exact this hj hw
      · rw [if_neg e] at h
        cases h
theorem frs_congr {p q : Nat → Bool} : ∀ {n : Nat}, (∀ j, j < n → p j = q j) → frs p n = frs q n := by
  intro n
  induction n with
  | zero => intro _; rfl
  | succ n ih =>
    intro h
    unfold frs
    rw [ih (fun j hj => h j (by omega)), h n (by omega)]
def LsOk (h : H2) (c : Nat) (ad : Nat → Nat) : Prop := c ≤ 24 ∧ hg h 17 1 = nI c ∧ hg h 86 5 = nI c ∧ (∀ l, l < c → h.2.2.2 l = some (ad l) ∧ LnAt h (ad l) l) ∧ (∀ l m, l < m → m < c → ad l < ad m) ∧ 137 ≤ h.1 ∧ (∀ a, h.1 ≤ a → ∀ i, hg h a i = 0)
def InvL (h : H2) : Prop := ∃ c ad, LsOk h c ad
theorem e3 (X : XS) (h : H2) (Q : Option Value → H2 → Prop) (c : Nat) (ad : Nat → Nat) (ok : LsOk h c ad) (v k s w d : Int32) : EC X 3 [.ref 17, .int v, .int k, .int s, .int w, .int d] h Q ↔ Q (some (.int (oN (frs (fun l => stB h l v k s w d) c)))) h := by
  obtain ⟨hc, c1, -, ls, -⟩ := ok
  have key : ∀ i n u, n + i = c → (∀ j, j < n → stB h j v k s w d = false) → (E X 3 3 [some (.ref 17), some (.int v), some (.int k), some (.int s), some (.int w), some (.int d), some (.int (nI n)), u] [] h Q ↔ Q (some (.int (oN (frs (fun l => stB h l v k s w d) c)))) h) := by
    intro i
    induction i with
    | zero =>
      intro n u hn hf
      have : n = c := by omega
      subst this
      rw [g3_3, c1, if_pos (nI_le (Nat.le_refl _) (by omega)), frs_none hf]
      exact Iff.rfl
    | succ i ih =>
      intro n u hn hf
      have hk : (nI n).toNatClampNeg = n := nI_clamp (by omega)
      obtain ⟨l1, la⟩ := ls n (by omega)
      rw [g3_3, c1, if_neg (nI_ge (by omega) (by omega)), hk, if_neg (bI n 24 (by omega) (by omega)), l1, oel_s', okL X.1 la.1 la.2.1, nI_1]
      show EC X 42 _ _ _ ↔ _
      rw [e42 X h _ (ad n) n la, rI_i]
      dsimp only
      by_cases q : stB h n v k s w d = true
      · rw [if_neg (fun z => (bz_0 _).mp z q), frs_some (p := fun l => stB h l v k s w d) q hf (by omega)]
        exact Iff.rfl
      · rw [if_pos ((bz_0 _).mpr q)]
        refine ih (n + 1) _ (by omega) (fun j hj => ?_)
        by_cases e : j = n
        · subst e
          cases hh : stB h j v k s w d with
          | true => exact absurd hh q
          | false => rfl
        · exact hf j (by omega)
  rw [g3]
  exact key c 0 _ (by omega) (fun j hj => by omega)
theorem e187 (X : XS) (h : H2) (Q : Option Value → H2 → Prop) (c : Nat) (ad : Nat → Nat) (ok : LsOk h c ad) (v k s w d : Int32) : EC X 187 [.ref 86, .int v, .int k, .int s, .int w, .int d] h Q ↔ Q (some (.int (oN (frs (fun l => stB h l v k s w d) c)))) h := by
  obtain ⟨hc, -, c1, ls, -⟩ := ok
  have key : ∀ i n, n + i = c → (∀ j, j < n → stB h j v k s w d = false) → (E X 187 3 [some (.ref 86), some (.int v), some (.int k), some (.int s), some (.int w), some (.int d), some (.int (nI n))] [] h Q ↔ Q (some (.int (oN (frs (fun l => stB h l v k s w d) c)))) h) := by
    intro i
    induction i with
    | zero =>
      intro n hn hf
      have : n = c := by omega
      subst this
      rw [g187_3, c1, if_pos (nI_le (Nat.le_refl _) (by omega)), frs_none hf]
      exact Iff.rfl
    | succ i ih =>
      intro n hn hf
      obtain ⟨l1, la⟩ := ls n (by omega)
      rw [g187_3, c1, if_neg (nI_ge (by omega) (by omega)), nI_1]
      show EC X 185 _ _ _ ↔ _
      rw [e185 X h _ n (by omega) la.2.2.2, rI_i]
      dsimp only
      by_cases q : stB h n v k s w d = true
      · rw [if_neg (fun z => (bz_0 _).mp z q), frs_some (p := fun l => stB h l v k s w d) q hf (by omega)]
        exact Iff.rfl
      · rw [if_pos ((bz_0 _).mpr q)]
        refine ih (n + 1) (by omega) (fun j hj => ?_)
        by_cases e : j = n
        · subst e
          cases hh : stB h j v k s w d with
          | true => exact absurd hh q
          | false => rfl
        · exact hf j (by omega)
  rw [g187]
  exact key c 0 (by omega) (fun j hj => by omega)
def isDd (v k s w : Int32) : Prop := (0 ≤ v ∧ v ≤ 3) ∧ (0 ≤ k ∧ k ≤ 3) ∧ (0 ≤ s ∧ s ≤ 99) ∧ (0 ≤ w ∧ w ≤ 4)
theorem deedI {v k s w : Int32} {P : Int32 → Prop} (c1 : Prop) (_ : c1 ↔ ((0 ≤ v ∧ v ≤ 3) ∧ (0 ≤ k ∧ k ≤ 3) ∧ (0 ≤ s ∧ s ≤ 99) ∧ (0 ≤ w ∧ w ≤ 4))) [Decidable c1] : (if ¬ (0 ≤ v ∧ v ≤ 3) then P 0 else if ¬ (0 ≤ k ∧ k ≤ 3) then P 0 else if ¬ (0 ≤ s ∧ s ≤ 99) then P 0 else if ¬ (0 ≤ w ∧ w ≤ 4) then P 0 else P 1) = P (b2i c1) := by
  rename_i hc _
  by_cases a1 : 0 ≤ v ∧ v ≤ 3
  · rw [if_neg (fun z => z a1)]
    by_cases a2 : 0 ≤ k ∧ k ≤ 3
    · rw [if_neg (fun z => z a2)]
      by_cases a3 : 0 ≤ s ∧ s ≤ 99
      · rw [if_neg (fun z => z a3)]
        by_cases a4 : 0 ≤ w ∧ w ≤ 4
        · rw [if_neg (fun z => z a4), b2i_t (hc.mpr ⟨a1, a2, a3, a4⟩)]
        · rw [if_pos a4, b2i_f (fun z => a4 (hc.mp z).2.2.2)]
      · rw [if_pos a3, b2i_f (fun z => a3 (hc.mp z).2.2.1)]
    · rw [if_pos a2, b2i_f (fun z => a2 (hc.mp z).2.1)]
  · rw [if_pos a1, b2i_f (fun z => a1 (hc.mp z).1)]
theorem e163 (X : XS) (h : H2) (Q : Option Value → H2 → Prop) (v k s w : Int32) : EC X 163 [.int v, .int k, .int s, .int w] h Q ↔ Q (some (.int (b2i ((0 ≤ v ∧ v ≤ 3) ∧ (0 ≤ k ∧ k ≤ 3) ∧ (0 ≤ s ∧ s ≤ 99) ∧ (0 ≤ w ∧ w ≤ 4))))) h := by
  rw [g163]
  simp only [cI, e161, rI_i, b2i_0]
  rw [deedI (P := fun x => Q (some (.int x)) h) _ Iff.rfl]
theorem e186 (X : XS) (h : H2) (Q : Option Value → H2 → Prop) (v k s w : Int32) : EC X 186 [.int v, .int k, .int s, .int w] h Q ↔ Q (some (.int (b2i ((0 ≤ v ∧ v ≤ 3) ∧ (0 ≤ k ∧ k ≤ 3) ∧ (0 ≤ s ∧ s ≤ 99) ∧ (0 ≤ w ∧ w ≤ 4))))) h := by
  rw [g186]
  simp only [cI, e168, rI_i, b2i_0]
  rw [deedI (P := fun x => Q (some (.int x)) h) _ Iff.rfl]
theorem c_why (X : XS) (h : H2) (iv : InvL h) (p0 p1 p2 p3 p4 : Int32) : EC X 112 [.ref 5, .int p0, .int p1, .int p2, .int p3, .int p4] h (fun v1 h1 => EC X 189 [.ref 86, .int p0, .int p1, .int p2, .int p3, .int p4] h1 (fun v2 h2 => v1 = v2 ∧ InvL h2 ∧ Wr [0, 2] h h2)) := by
  have iv' := iv
  obtain ⟨c, ad, ok⟩ := iv
  rw [g112]
  simp only [cI, e163, e162, rI_i, b2i_0]
  by_cases hd : (0 ≤ p0 ∧ p0 ≤ 3) ∧ (0 ≤ p1 ∧ p1 ≤ 3) ∧ (0 ≤ p2 ∧ p2 ≤ 99) ∧ (0 ≤ p3 ∧ p3 ≤ 4)
  · rw [if_neg (fun z => z hd)]
    by_cases hp : 0 ≤ p4 ∧ p4 ≤ 99
    · rw [if_pos (fun z => z hp), e3 X h _ c ad ok, rI_i, g189]
      simp only [cI, e186, e169, rI_i, b2i_0]
      rw [if_neg (fun z => z hd), if_neg (fun z => z hp), e187 X h _ c ad ok, rI_i]
      exact ⟨rfl, iv', Wr_refl _ _⟩
    · rw [if_neg (fun z => z hp), g189]
      simp only [cI, e186, e169, rI_i, b2i_0]
      rw [if_neg (fun z => z hd), if_pos hp]
      exact ⟨trivial, iv', Wr_refl _ _⟩
  · rw [if_pos hd, g189]
    simp only [cI, e186, e169, rI_i, b2i_0]
    rw [if_pos hd]
    exact ⟨trivial, iv', Wr_refl _ _⟩
theorem oN_9 (o : Option Nat) (n : Nat) (hn : n < 2 ^ 31) (ho : ∀ b, o = some b → b < n) : oN o = -9 ↔ o = none := by
  cases o with
  | none => exact ⟨fun _ => rfl, fun _ => rfl⟩
  | some b => exact ⟨fun z => absurd z (nI_m9 (by have := ho b rfl; omega)), fun z => by cases z⟩
theorem oN_2 (o : Option Nat) (n : Nat) (hn : n < 2 ^ 31) (ho : ∀ b, o = some b → b < n) : ¬ oN o = -2 := by
  cases o with
  | none => show ¬ (-9 : Int32) = -2; decide
  | some b =>
    intro z
    have := nI_pos' (n := b) (by have := ho b rfl; omega)
    rw [show nI b = -2 from z] at this
    exact absurd this (by decide)
theorem c_stops (X : XS) (h : H2) (iv : InvL h) (p0 p1 p2 p3 p4 : Int32) : EC X 111 [.ref 5, .int p0, .int p1, .int p2, .int p3, .int p4] h (fun v1 h1 => EC X 188 [.ref 86, .int p0, .int p1, .int p2, .int p3, .int p4] h1 (fun v2 h2 => v1 = v2 ∧ InvL h2 ∧ Wr [0, 2] h h2)) := by
  have iv' := iv
  obtain ⟨c, ad, ok⟩ := iv
  have hc := ok.1
  rw [g111]
  show EC X 112 _ _ _
  rw [g112]
  simp only [cI, e163, e162, rI_i, b2i_0]
  by_cases hd : (0 ≤ p0 ∧ p0 ≤ 3) ∧ (0 ≤ p1 ∧ p1 ≤ 3) ∧ (0 ≤ p2 ∧ p2 ≤ 99) ∧ (0 ≤ p3 ∧ p3 ≤ 4)
  · rw [if_neg (fun z => z hd)]
    by_cases hp : 0 ≤ p4 ∧ p4 ≤ 99
    · have md : ∀ R, EC X 188 [.ref 86, .int p0, .int p1, .int p2, .int p3, .int p4] h R ↔ if ¬ oN (frs (fun l => stB h l p0 p1 p2 p3 p4) c) = -9 then R (some (.int 1)) h else R (some (.int 0)) h := by
        intro R
        rw [g188]
        simp only [cI, e186, e169, rI_i, b2i_0]
        rw [if_neg (fun z => z hd), if_pos (fun z => z hp), e187 X h _ c ad ok, rI_i]
      rw [if_pos (fun z => z hp), e3 X h _ c ad ok, rI_i, if_pos (oN_2 _ c (by omega) (fun b hb => (frs_is hb).1))]
      by_cases q : oN (frs (fun l => stB h l p0 p1 p2 p3 p4) c) = -9
      · rw [if_neg (fun z => z q), md, if_neg (fun z => z q)]
        exact ⟨rfl, iv', Wr_refl _ _⟩
      · rw [if_pos q, md, if_pos q]
        exact ⟨rfl, iv', Wr_refl _ _⟩
    · rw [if_neg (fun z => z hp), if_neg (fun z => z trivial), g188]
      simp only [cI, e186, e169, rI_i, b2i_0]
      rw [if_neg (fun z => z hd), if_neg (fun z => z hp)]
      exact ⟨trivial, iv', Wr_refl _ _⟩
  · rw [if_pos hd, if_neg (fun z => z trivial), g188]
    simp only [cI, e186, e169, rI_i, b2i_0]
    rw [if_pos hd]
    exact ⟨trivial, iv', Wr_refl _ _⟩
theorem e4 (X : XS) (h : H2) (Q : Option Value → H2 → Prop) (c : Nat) (ad : Nat → Nat) (ok : LsOk h c ad) (d : Int32) : EC X 4 [.ref 17, .int d] h Q ↔ Q (some (.int (nI (cnt (fun l => inF h l d) c)))) h := by
  obtain ⟨hc, c1, -, ls, -⟩ := ok
  have key : ∀ i n u, n + i = c → (E X 4 4 [some (.ref 17), some (.int d), some (.int (nI (cnt (fun l => inF h l d) n))), some (.int (nI n)), u] [] h Q ↔ Q (some (.int (nI (cnt (fun l => inF h l d) c)))) h) := by
    intro i
    induction i with
    | zero =>
      intro n u hn
      have : n = c := by omega
      subst this
      rw [g4_4, c1, if_pos (nI_le (Nat.le_refl _) (by omega))]
    | succ i ih =>
      intro n u hn
      have hk : (nI n).toNatClampNeg = n := nI_clamp (by omega)
      obtain ⟨l1, la⟩ := ls n (by omega)
      have i1 : ∀ u, E X 4 4 [some (.ref 17), some (.int d), some (.int (nI (cnt (fun l => inF h l d) (n + 1)))), some (.int (nI (n + 1))), u] [] h Q ↔ Q (some (.int (nI (cnt (fun l => inF h l d) c)))) h := fun u => ih (n + 1) u (by omega)
      have ee : cnt (fun l => inF h l d) (n + 1) = cnt (fun l => inF h l d) n + (if inF h n d = true then 1 else 0) := rfl
      rw [g4_4, c1, if_neg (nI_ge (by omega) (by omega)), hk, if_neg (bI n 24 (by omega) (by omega)), l1, oel_s', okL X.1 la.1 la.2.1, nI_1]
      show EC X 41 _ _ _ ↔ _
      rw [e41 X h _ (ad n) n la, rI_i]
      dsimp only
      by_cases q : inF h n d = true
      · rw [ee, if_pos q] at i1
        rw [if_neg (fun z => (bz_0 _).mp z q), nI_1]
        exact i1 _
      · rw [ee, if_neg q] at i1
        rw [if_pos ((bz_0 _).mpr q)]
        exact i1 _
  rw [g4]
  exact key c 0 _ (by omega)
theorem e190 (X : XS) (h : H2) (Q : Option Value → H2 → Prop) (c : Nat) (ad : Nat → Nat) (ok : LsOk h c ad) (d : Int32) : E X 190 14 [some (.ref 86), some (.int d), some (.int 0), some (.int 0)] [] h Q ↔ Q (some (.int (nI (cnt (fun l => inF h l d) c)))) h := by
  obtain ⟨hc, -, c1, ls, -⟩ := ok
  have key : ∀ i n, n + i = c → (E X 190 14 [some (.ref 86), some (.int d), some (.int (nI (cnt (fun l => inF h l d) n))), some (.int (nI n))] [] h Q ↔ Q (some (.int (nI (cnt (fun l => inF h l d) c)))) h) := by
    intro i
    induction i with
    | zero =>
      intro n hn
      have : n = c := by omega
      subst this
      rw [g190_14, c1, if_pos (nI_le (Nat.le_refl _) (by omega))]
    | succ i ih =>
      intro n hn
      have i1 := ih (n + 1) (by omega)
      have ee : cnt (fun l => inF h l d) (n + 1) = cnt (fun l => inF h l d) n + (if inF h n d = true then 1 else 0) := rfl
      rw [g190_14, c1, if_neg (nI_ge (by omega) (by omega)), nI_1]
      show EC X 184 _ _ _ ↔ _
      rw [e184 X h _ n (by omega), rI_i, Int32.add_zero]
      dsimp only
      by_cases q : inF h n d = true
      · rw [ee, if_pos q] at i1
        rw [if_neg (fun z => (bz_0 _).mp z q), nI_1]
        exact i1
      · rw [ee, if_neg q] at i1
        rw [if_pos ((bz_0 _).mpr q)]
        exact i1
  exact key c 0 (by omega)
theorem c_force (X : XS) (h : H2) (iv : InvL h) (p0 : Int32) : EC X 113 [.ref 5, .int p0] h (fun v1 h1 => EC X 190 [.ref 86, .int p0] h1 (fun v2 h2 => v1 = v2 ∧ InvL h2 ∧ Wr [0, 2] h h2)) := by
  have iv' := iv
  obtain ⟨c, ad, ok⟩ := iv
  rw [g113]
  simp only [cI, e162, rI_i, b2i_0]
  by_cases hp : 0 ≤ p0 ∧ p0 ≤ 99
  · rw [if_neg (fun z => z hp), e4 X h _ c ad ok, rI_i, g190]
    simp only [cI, e169, rI_i, b2i_0]
    rw [if_pos (fun z => z hp), e190 X h _ c ad ok]
    exact ⟨rfl, iv', Wr_refl _ _⟩
  · rw [if_pos hp, g190]
    simp only [cI, e169, rI_i, b2i_0]
    rw [if_neg (fun z => z hp)]
    exact ⟨trivial, iv', Wr_refl _ _⟩
theorem e2_no (X : XS) (h : H2) (Q : Option Value → H2 → Prop) (c : Nat) (hc : c ≤ 24) (c1 : hg h 17 1 = nI c) (p0 : Int32) (hp : ¬ (0 ≤ p0 ∧ p0 < nI c)) : EC X 2 [.ref 17, .int p0] h Q ↔ Q (some .null) h := by
  rw [g2]
  simp only [cI, e161, rI_i, b2i_0, c1, inR_c (show c < 2 ^ 31 by omega), hp, not_false_iff, if_true]
theorem e2_yes (X : XS) (h : H2) (Q : Option Value → H2 → Prop) (c : Nat) (ad : Nat → Nat) (ok : LsOk h c ad) (l : Nat) (hl : l < c) : EC X 2 [.ref 17, .int (nI l)] h Q ↔ Q (some (.ref (ad l))) h := by
  obtain ⟨hc, c1, -, ls, -⟩ := ok
  have hk : (nI l).toNatClampNeg = l := nI_clamp (by omega)
  have hp : 0 ≤ nI l ∧ nI l ≤ nI c - 1 := (inR_c (show c < 2 ^ 31 by omega)).mpr ⟨nI_pos' (by omega), nI_lt hl (by omega)⟩
  rw [g2]
  show EC X 161 _ _ _ ↔ _
  rw [e161, rI_i, c1, b2i_t hp]
  dsimp only
  rw [if_neg n1_0, hk, if_neg (bI l 24 (by omega) (by omega)), (ls l hl).1, oel_s']
theorem e181 (X : XS) (h : H2) (Q : Option Value → H2 → Prop) (p0 : Int32) : EC X 181 [.ref 86, .int p0] h Q ↔ Q (some (.int (b2i (0 ≤ p0 ∧ p0 < hg h 86 5)))) h := by
  rw [g181]
  rw [mdl_b2i (R := fun x => Q (some (.int x)) h)]
theorem c_line (X : XS) (h : H2) (iv : InvL h) (p0 p1 : Int32) : EC X 110 [.ref 5, .int p0, .int p1] h (fun v1 h1 => EC X 183 [.ref 86, .int p0, .int p1] h1 (fun v2 h2 => v1 = v2 ∧ InvL h2 ∧ Wr [0, 2] h h2)) := by
  have iv' := iv
  obtain ⟨c, ad, ok⟩ := iv
  have ok' := ok
  obtain ⟨hc, c1, c2, ls, -⟩ := ok
  rw [g110]
  show EC X 2 _ _ _
  by_cases hp : 0 ≤ p0 ∧ p0 < nI c
  · obtain ⟨l, hl, rfl⟩ := (inR_lt (show c < 2 ^ 31 by omega)).mp hp
    have hk : (nI l).toNatClampNeg = l := nI_clamp (by omega)
    have bk := bI l 25 (show l < 25 by omega) (by omega)
    obtain ⟨l1, la1, la2, la3, -⟩ := ls l hl
    have okl := okL X.1 la1 la2
    have md : ∀ R, EC X 183 [.ref 86, .int (nI l), .int p1] h R ↔ (if p1 = 0 then R (some (.int (hg h 90 l))) h else if p1 = 1 then R (some (.int (hg h 91 l))) h else if p1 = 2 then R (some (.int (hg h 92 l))) h else if p1 = 3 then R (some (.int (hg h 93 l))) h else if p1 = 4 then R (some (.int (hg h 94 l))) h else if p1 = 5 then R (some (.int (hg h 95 l))) h else if p1 = 6 then R (some (.int (hg h 96 l))) h else R (some (.int (-2))) h) := by
      intro R
      rw [g183]
      show EC X 181 _ _ _ ↔ _
      rw [e181, rI_i, c2, b2i_t hp]
      dsimp only
      rw [if_pos n1_0, hk, if_neg bk, if_neg bk, if_neg bk, if_neg bk, if_neg bk, if_neg bk, if_neg bk]
    rw [e2_yes X h _ c ad ok' l hl, rO_r]
    simp only [okl, cond_true, la3 0 (by omega), la3 1 (by omega), la3 2 (by omega), la3 3 (by omega), la3 4 (by omega), la3 5 (by omega), la3 6 (by omega)]
    have fin : InvL h ∧ Wr [0, 2] h h := ⟨iv', Wr_refl _ _⟩
    by_cases q0 : p1 = 0
    · rw [if_pos q0, md, if_pos q0]; exact ⟨rfl, fin⟩
    rw [if_neg q0]
    by_cases q1 : p1 = 1
    · rw [if_pos q1, md, if_neg q0, if_pos q1]; exact ⟨rfl, fin⟩
    rw [if_neg q1]
    by_cases q2 : p1 = 2
    · rw [if_pos q2, md, if_neg q0, if_neg q1, if_pos q2]; exact ⟨rfl, fin⟩
    rw [if_neg q2]
    by_cases q3 : p1 = 3
    · rw [if_pos q3, md, if_neg q0, if_neg q1, if_neg q2, if_pos q3]; exact ⟨rfl, fin⟩
    rw [if_neg q3]
    by_cases q4 : p1 = 4
    · rw [if_pos q4, md, if_neg q0, if_neg q1, if_neg q2, if_neg q3, if_pos q4]; exact ⟨rfl, fin⟩
    rw [if_neg q4]
    by_cases q5 : p1 = 5
    · rw [if_pos q5, md, if_neg q0, if_neg q1, if_neg q2, if_neg q3, if_neg q4, if_pos q5]; exact ⟨rfl, fin⟩
    rw [if_neg q5]
    by_cases q6 : p1 = 6
    · rw [if_pos q6, md, if_neg q0, if_neg q1, if_neg q2, if_neg q3, if_neg q4, if_neg q5, if_pos q6]; exact ⟨rfl, fin⟩
    rw [if_neg q6, md, if_neg q0, if_neg q1, if_neg q2, if_neg q3, if_neg q4, if_neg q5, if_neg q6]
    exact ⟨rfl, fin⟩
  · rw [e2_no X h _ c hc c1 p0 hp, rO_n]
    dsimp only
    rw [g183]
    show EC X 181 _ _ _
    rw [e181, rI_i, c2, b2i_f hp]
    dsimp only
    rw [if_neg (fun z => z rfl)]
    exact ⟨rfl, iv', Wr_refl _ _⟩
theorem c_strike (X : XS) (h : H2) (iv : InvL h) (p0 p1 : Int32) : EC X 109 [.ref 5, .int p0, .int p1] h (fun v1 h1 => EC X 182 [.ref 86, .int p0, .int p1] h1 (fun v2 h2 => v1 = v2 ∧ InvL h2 ∧ Wr [0, 2] h h2)) := by
  have iv' := iv
  obtain ⟨c, ad, ok⟩ := iv
  have ok' := ok
  obtain ⟨hc, c1, c2, ls, inc, sz, fz⟩ := ok
  rw [g109]
  show EC X 2 _ _ _
  by_cases hp : 0 ≤ p0 ∧ p0 < nI c
  · obtain ⟨l, hl, rfl⟩ := (inR_lt (show c < 2 ^ 31 by omega)).mp hp
    have hk : (nI l).toNatClampNeg = l := nI_clamp (by omega)
    have bk := bI l 25 (show l < 25 by omega) (by omega)
    obtain ⟨l1, la1, la2, la3, la4⟩ := ls l hl
    have okl := okL X.1 la1 la2
    rw [e2_yes X h _ c ad ok' l hl, rO_r]
    show EC X 162 _ _ _
    rw [e162, rI_i]
    dsimp only
    by_cases hq : 0 ≤ p1 ∧ p1 ≤ 99
    · rw [b2i_t hq, if_pos n1_0, okl]
      show EC X 182 _ _ _
      have q5 : hg (sI h (ad l) 6 p1) 86 5 = nI c := by rw [hg_ne _ (by omega), c2]
      have q96 : hg (sI h (ad l) 6 p1) 96 l = hg h 96 l := by rw [hg_ne _ (by omega)]
      rw [g182]
      show EC X 181 _ _ _
      rw [e181, rI_i, q5, b2i_t hp]
      dsimp only
      rw [if_pos n1_0]
      show EC X 169 _ _ _
      rw [e169, rI_i, b2i_t hq]
      dsimp only
      rw [if_pos n1_0, hk, if_neg bk, if_neg bk, q96]
      refine ⟨?_, ⟨c, ad, hc, ?_, ?_, ?_, inc, sz, ?_⟩, ?_⟩
      · rw [la3 6 (by omega)]
      · rw [hg_ne _ (by decide), hg_ne _ (by omega), c1]
      · rw [hg_ne _ (by decide), q5]
      · intro m hm
        obtain ⟨m1, ma1, ma2, ma3, ma4⟩ := ls m hm
        refine ⟨m1, ma1, ma2, ?_, ?_⟩
        · intro i hi
          by_cases e : m = l
          · subst e
            by_cases e6 : i = 6
            · subst e6
              rw [hg_ne _ (by omega), hg_eq, hg_eq]
            · rw [hg_ne _ (by omega), hg_nj _ e6, hg_ne _ (show 90 + i ≠ 96 by omega), hg_ne _ (by omega)]
              exact ma3 i hi
          · have na : ad m ≠ ad l := by
              rcases Nat.lt_or_gt_of_ne e with q | q
              · have := inc m l q hl; omega
              · have := inc l m q hm; omega
            rw [hg_ne _ (show ad m ≠ 96 by omega), hg_ne _ na, hg_sI _ 96, if_neg (fun z => e z.2), hg_ne _ (by omega)]
            exact ma3 i hi
        · rw [hg_ne _ (by decide), hg_ne _ (by omega)]
          exact ma4
      · intro b hb i
        have hb' : h.1 ≤ b := hb
        rw [hg_ne _ (by omega), hg_ne _ (by omega)]
        exact fz b hb' i
      · exact Wr_sI (Wr_sI (Wr_refl _ _) (by rw [com137 la1]; decide)) (show (2 : Nat) ∈ _ by decide)
    · rw [b2i_f hq, if_neg (fun z => z rfl), g182]
      show EC X 181 _ _ _
      rw [e181, rI_i, c2, b2i_t hp]
      dsimp only
      rw [if_pos n1_0]
      show EC X 169 _ _ _
      rw [e169, rI_i, b2i_f hq]
      dsimp only
      rw [if_neg (fun z => z rfl)]
      exact ⟨rfl, iv', Wr_refl _ _⟩
  · rw [e2_no X h _ c hc c1 p0 hp, rO_n]
    dsimp only
    rw [g182]
    show EC X 181 _ _ _
    rw [e181, rI_i, c2, b2i_f hp]
    dsimp only
    rw [if_neg (fun z => z rfl)]
    exact ⟨rfl, iv', Wr_refl _ _⟩
