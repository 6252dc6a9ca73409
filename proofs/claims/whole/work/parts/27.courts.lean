/-! courts: which case comes next, sittings, days -/
def canC (on len day : Nat → Int32) (d left : Int32) (k : Nat) : Bool := decide (day k ≤ d ∧ on k = -9 ∧ len k ≤ left)
def ahd (day rank : Nat → Int32) (k b : Nat) : Bool := decide (rank b < rank k ∨ (rank k = rank b ∧ day k < day b))
def bst (day rank : Nat → Int32) (k : Nat) : Option Nat → Option Nat
  | none => some k
  | some b => if ahd day rank k b = true then some k else some b
def nxC (on len day rank : Nat → Int32) (d left : Int32) : Nat → Option Nat
  | 0 => none
  | k + 1 => if canC on len day d left k = true then bst day rank k (nxC on len day rank d left k) else nxC on len day rank d left k
theorem nxC_can {on len day rank : Nat → Int32} {d left : Int32} : ∀ {n b : Nat}, nxC on len day rank d left n = some b → b < n ∧ canC on len day d left b = true := by
  intro n
  induction n with
  | zero => intro b hb; cases hb
  | succ n ih =>
    intro b hb
    unfold nxC at hb
    by_cases e : canC on len day d left n = true
    · rw [if_pos e] at hb
      cases hw : nxC on len day rank d left n with
      | none => rw [hw] at hb; cases hb; exact ⟨by omega, e⟩
      | some b' =>
        rw [hw] at hb
        unfold bst at hb
        dsimp only at hb
        by_cases l : ahd day rank n b' = true
        · rw [if_pos l] at hb; cases hb; exact ⟨by omega, e⟩
        · rw [if_neg l] at hb
          cases hb
          have := ih hw
          exact ⟨by omega, this.2⟩
    · rw [if_neg e] at hb
      have := ih hb
      exact ⟨by omega, this.2⟩
theorem e34 (X : XS) (h : H2) (Q : Option Value → H2 → Prop) (k b : Nat) (hk : k < 30) (hb : b < 30) (day rank : Nat → Int32) (e1 : hg h 76 k = day k) (e2 : hg h 76 b = day b) (e3 : hg h 77 k = rank k) (e4 : hg h 77 b = rank b) :
    EC X 34 [.ref 74, .int (nI k), .int (nI b)] h Q ↔ Q (some (.int (bz (ahd day rank k b)))) h := by
  have kk : (nI k).toNatClampNeg = k := nI_clamp (by omega)
  have kb : (nI b).toNatClampNeg = b := nI_clamp (by omega)
  rw [g34]
  simp only [kk, kb, bI k 30 hk (by omega), bI b 30 hb (by omega), if_false, e1, e2, e3, e4]
  by_cases c1 : rank b < rank k
  · rw [if_pos c1, show ahd day rank k b = true from decide_eq_true (Or.inl c1)]
    exact Iff.rfl
  · rw [if_neg c1]
    by_cases c2 : rank k = rank b
    · rw [if_neg (fun z => z c2)]
      by_cases c3 : day b ≤ day k
      · have : ahd day rank k b = false := by
          refine decide_eq_false ?_
          rintro (z | z)
          · exact c1 z
          · exact absurd z.2 (Int32.not_lt.mpr c3)
        rw [if_pos c3, this]
        exact Iff.rfl
      · rw [if_neg c3, show ahd day rank k b = true from decide_eq_true (Or.inr ⟨c2, Int32.not_le.mp c3⟩)]
        exact Iff.rfl
    · have : ahd day rank k b = false := by
        refine decide_eq_false ?_
        rintro (z | z)
        · exact c1 z
        · exact c2 z.1
      rw [if_pos c2, this]
      exact Iff.rfl
theorem e33 (X : XS) (h : H2) (Q : Option Value → H2 → Prop) (c : Nat) (hc : c ≤ 30) (ec : hg h 74 7 = nI c) (on len day rank : Nat → Int32) (r78 : ∀ k, k < c → hg h 78 k = on k) (r75 : ∀ k, k < c → hg h 75 k = len k) (r76 : ∀ k, k < c → hg h 76 k = day k) (r77 : ∀ k, k < c → hg h 77 k = rank k) (d left : Int32) :
    EC X 33 [.ref 74, .int d, .int left] h Q ↔ Q (some (.int (oN (nxC on len day rank d left c)))) h := by
  have key : ∀ i k u, k + i = c → (E X 33 6 [some (.ref 74), some (.int d), some (.int left), some (.int (oN (nxC on len day rank d left k))), some (.int (nI k)), u] [] h Q ↔ Q (some (.int (oN (nxC on len day rank d left c)))) h) := by
    intro i
    induction i with
    | zero =>
      intro k u hk
      have : k = c := by omega
      subst this
      rw [g33_6u, ec, if_pos (nI_le (Nat.le_refl _) (by omega))]
    | succ i ih =>
      intro k u hk
      have hkk : (nI k).toNatClampNeg = k := nI_clamp (by omega)
      have i1 : ∀ u, E X 33 6 [some (.ref 74), some (.int d), some (.int left), some (.int (oN (nxC on len day rank d left (k + 1)))), some (.int (nI (k + 1))), u] [] h Q ↔ Q (some (.int (oN (nxC on len day rank d left c)))) h := fun u => ih (k + 1) u (by omega)
      have e : nxC on len day rank d left (k + 1) = if canC on len day d left k = true then bst day rank k (nxC on len day rank d left k) else nxC on len day rank d left k := rfl
      have z0 : ∀ u, (if (0 : Int32) = 0 then E X 33 6 [some (.ref 74), some (.int d), some (.int left), some (.int (oN (nxC on len day rank d left k))), some (.int (nI (k + 1))), some (.int 0)] [] h Q else u) = E X 33 6 [some (.ref 74), some (.int d), some (.int left), some (.int (oN (nxC on len day rank d left k))), some (.int (nI (k + 1))), some (.int 0)] [] h Q := fun u => if_pos rfl
      rw [g33_6u, ec, if_neg (nI_ge (by omega) (by omega)), hkk, if_neg (bI k 30 (by omega) (by omega)), if_neg (bI k 30 (by omega) (by omega)), if_neg (bI k 30 (by omega) (by omega)), r76 k (by omega), r78 k (by omega), r75 k (by omega)]
      have no : ¬ canC on len day d left k = true → (E X 33 53 [some (.ref 74), some (.int d), some (.int left), some (.int (oN (nxC on len day rank d left k))), some (.int (nI k)), u] [] h Q ↔ Q (some (.int (oN (nxC on len day rank d left c)))) h) := by
        intro z
        rw [g33_53u, g33_54u, nI_1, if_pos rfl]
        rw [e, if_neg z] at i1
        exact i1 _
      by_cases c1 : d < day k
      · rw [if_pos c1]
        exact no (fun z => absurd c1 (i_nlt.mpr (of_decide_eq_true z).1))
      · rw [if_neg c1]
        by_cases c2 : on k = -9
        · rw [if_neg (fun z => z c2)]
          by_cases c3 : left < len k
          · rw [if_pos c3]
            exact no (fun z => absurd c3 (i_nlt.mpr (of_decide_eq_true z).2.2))
          · rw [if_neg c3, g33_54u, if_neg (by decide), nI_1]
            have yes : canC on len day d left k = true := decide_eq_true ⟨i_nlt.mp c1, c2, i_nlt.mp c3⟩
            rw [e, if_pos yes] at i1
            cases hw : nxC on len day rank d left k with
            | none =>
              rw [hw] at i1
              rw [if_pos (show oN none = -9 from rfl)]
              exact i1 _
            | some b =>
              have wb := (nxC_can hw).1
              rw [hw] at i1
              rw [if_neg (show ¬ oN (some b) = -9 from nI_m9 (by omega))]
              show EC X 34 [.ref 74, .int (nI k), .int (nI b)] h _ ↔ _
              rw [e34 X h _ k b (by omega) (by omega) day rank (r76 k (by omega)) (r76 b (by omega)) (r77 k (by omega)) (r77 b (by omega)), rI_i]
              dsimp only
              by_cases l : ahd day rank k b = true
              · rw [if_neg (fun z => (bz_0 _).mp z l)]
                have e4 : bst day rank k (some b) = some k := if_pos l
                rw [e4] at i1
                exact i1 _
              · rw [if_pos ((bz_0 _).mpr l)]
                have e4 : bst day rank k (some b) = some b := if_neg l
                rw [e4] at i1
                exact i1 _
        · rw [if_pos c2]
          exact no (fun z => c2 (of_decide_eq_true z).2.1)
  rw [g33]
  exact key c 0 _ (by omega)
theorem e239 (X : XS) (h : H2) (Q : Option Value → H2 → Prop) (c : Nat) (hc : c ≤ 30) (ec : hg h 86 61 = nI c) (on len day rank : Nat → Int32) (r78 : ∀ k, k < c → hg h 128 k = on k) (r75 : ∀ k, k < c → hg h 125 k = len k) (r76 : ∀ k, k < c → hg h 126 k = day k) (r77 : ∀ k, k < c → hg h 127 k = rank k) (d left : Int32) :
    EC X 239 [.ref 86, .int d, .int left] h Q ↔ Q (some (.int (oN (nxC on len day rank d left c)))) h := by
  have key : ∀ i k u, k + i = c → (E X 239 6 [some (.ref 86), some (.int d), some (.int left), some (.int (oN (nxC on len day rank d left k))), some (.int (nI k)), u] [] h Q ↔ Q (some (.int (oN (nxC on len day rank d left c)))) h) := by
    intro i
    induction i with
    | zero =>
      intro k u hk
      have : k = c := by omega
      subst this
      rw [g239_6, ec, if_pos (nI_le (Nat.le_refl _) (by omega))]
    | succ i ih =>
      intro k u hk
      have hkk : (nI k).toNatClampNeg = k := nI_clamp (by omega)
      have i1 : ∀ u, E X 239 6 [some (.ref 86), some (.int d), some (.int left), some (.int (oN (nxC on len day rank d left (k + 1)))), some (.int (nI (k + 1))), u] [] h Q ↔ Q (some (.int (oN (nxC on len day rank d left c)))) h := fun u => ih (k + 1) u (by omega)
      have e : nxC on len day rank d left (k + 1) = if canC on len day d left k = true then bst day rank k (nxC on len day rank d left k) else nxC on len day rank d left k := rfl
      have bk := bI k 30 (show k < 30 by omega) (by omega)
      have n1 : ¬ (1 : Int32) = 0 := n1_0
      rw [g239_6, ec, if_neg (nI_ge (by omega) (by omega))]
      simp only [hkk, bk, if_false, n1, if_true, r76 k (show k < c by omega), r78 k (show k < c by omega), r75 k (show k < c by omega), r77 k (show k < c by omega), nI_1]
      by_cases c2 : on k = -9
      · rw [if_neg (fun z => z c2)]
        by_cases c1 : d < day k
        · rw [if_pos c1]
          rw [e, if_neg (fun z => absurd c1 (i_nlt.mpr (of_decide_eq_true z).1))] at i1
          exact i1 _
        · rw [if_neg c1]
          by_cases c3 : len k ≤ left
          · rw [if_pos c3]
            have yes : canC on len day d left k = true := decide_eq_true ⟨i_nlt.mp c1, c2, c3⟩
            rw [e, if_pos yes] at i1
            cases hw : nxC on len day rank d left k with
            | none =>
              rw [hw] at i1
              rw [if_pos (show oN none = -9 from rfl)]
              exact i1 _
            | some b =>
              have wb := (nxC_can hw).1
              have hkb : (oN (some b)).toNatClampNeg = b := nI_clamp (n := b) (by omega)
              have bb : ¬ (oN (some b) < 0 ∨ 30 ≤ b) := bI b 30 (by omega) (by omega)
              rw [hw] at i1
              rw [if_neg (show ¬ oN (some b) = -9 from nI_m9 (by omega))]
              simp only [hkb, bb, if_false, r76 b (show b < c by omega), r77 b (show b < c by omega)]
              by_cases l1 : rank b < rank k
              · have e4 : bst day rank k (some b) = some k := if_pos (decide_eq_true (Or.inl l1))
                rw [e4] at i1
                rw [if_pos l1]
                exact i1 _
              · rw [if_neg l1]
                by_cases l2 : rank k = rank b
                · rw [if_neg (fun z => z l2)]
                  by_cases l3 : day b ≤ day k
                  · have e4 : bst day rank k (some b) = some b := by
                      refine if_neg (fun z => ?_)
                      rcases of_decide_eq_true z with z | z
                      · exact l1 z
                      · exact absurd z.2 (Int32.not_lt.mpr l3)
                    rw [e4] at i1
                    rw [if_pos l3]
                    exact i1 _
                  · have e4 : bst day rank k (some b) = some k := if_pos (decide_eq_true (Or.inr ⟨l2, Int32.not_le.mp l3⟩))
                    rw [e4] at i1
                    rw [if_neg l3]
                    exact i1 _
                · have e4 : bst day rank k (some b) = some b := by
                    refine if_neg (fun z => ?_)
                    rcases of_decide_eq_true z with z | z
                    · exact l1 z
                    · exact l2 z.1
                  rw [e4] at i1
                  rw [if_pos l2]
                  exact i1 _
          · rw [if_neg c3]
            rw [e, if_neg (fun z => c3 (of_decide_eq_true z).2.2)] at i1
            exact i1 _
      · rw [if_pos c2]
        rw [e, if_neg (fun z => c2 (of_decide_eq_true z).2.1)] at i1
        exact i1 _
  rw [g239]
  exact key c 0 _ (by omega)
abbrev SC : Type := (Nat → Int32) × (Nat → Int32) × Nat
def hearS (s : SC) (b : Nat) (d j : Int32) : SC := (fun i => if i = b then d else s.1 i, fun i => if i = b then j else s.2.1 i, s.2.2 + 1)
def sitF (c : Nat) (len day rank : Nat → Int32) (d j : Int32) : Nat → SC → Int32 → SC
  | 0, s, _ => s
  | f + 1, s, left => match nxC s.1 len day rank d left c with
    | none => s
    | some b => sitF c len day rank d j f (hearS s b d j) (left - len b)
def uh (c : Nat) (on : Nat → Int32) : Nat := cnt (fun i => decide (on i = -9)) c
theorem cnt_upd {f g : Nat → Bool} {b : Nat} : ∀ {n : Nat}, b < n → f b = true → g b = false → (∀ i, i ≠ b → g i = f i) → cnt g n + 1 = cnt f n := by
  intro n
  induction n with
  | zero => intro h _ _ _; omega
  | succ n ih =>
    intro hb h1 h2 h3
    unfold cnt
    by_cases e : b = n
    · subst e
      have : cnt g b = cnt f b := cnt_congr (fun i hi => h3 i (by omega))
      rw [this, h1, h2, if_neg (by decide), if_pos rfl]
    · have := ih (by omega) h1 h2 h3
      rw [h3 n (fun z => e z.symm)]
      omega
theorem uh_hear {c b : Nat} {s : SC} {d j : Int32} (hb : b < c) (h1 : s.1 b = -9) (hd : ¬ d = -9) : uh c (hearS s b d j).1 + 1 = uh c s.1 := by
  refine cnt_upd hb (decide_eq_true h1) (decide_eq_false ?_) ?_
  · show ¬ (if b = b then d else s.1 b) = -9
    rw [if_pos rfl]
    exact hd
  · intro i hi
    show decide ((if i = b then d else s.1 i) = -9) = _
    rw [if_neg hi]
theorem nx_none {c : Nat} {on len day rank : Nat → Int32} {d left : Int32} (h0 : uh c on = 0) : nxC on len day rank d left c = none := by
  cases hw : nxC on len day rank d left c with
  | none => rfl
  | some b =>
    obtain ⟨hb, hcn⟩ := nxC_can hw
    have h1 := (of_decide_eq_true hcn).2.1
    have : 0 < uh c on := by
      have := cnt_lt (f := fun _ => false) (g := fun i => decide (on i = -9)) (p := b) (n := c) (fun j _ z => by cases z) hb rfl (decide_eq_true h1)
      exact Nat.lt_of_le_of_lt (Nat.zero_le _) this
    omega
theorem sit_inv {c : Nat} {len day rank : Nat → Int32} {d j : Int32} (hd : ¬ d = -9) : ∀ (f : Nat) (s : SC) (left : Int32), s.2.2 + uh c s.1 = c → (sitF c len day rank d j f s left).2.2 + uh c (sitF c len day rank d j f s left).1 = c := by
  intro f
  induction f with
  | zero => intro s left hs; exact hs
  | succ f ih =>
    intro s left hs
    unfold sitF
    cases hw : nxC s.1 len day rank d left c with
    | none => exact hs
    | some b =>
      obtain ⟨hb, hcn⟩ := nxC_can hw
      apply ih
      have := uh_hear (j := j) hb (of_decide_eq_true hcn).2.1 hd
      show s.2.2 + 1 + _ = c
      omega
theorem sit_id {c : Nat} {len day rank : Nat → Int32} {d j : Int32} (f : Nat) (s : SC) (left : Int32) (h0 : uh c s.1 = 0) : sitF c len day rank d j f s left = s := by
  cases f with
  | zero => rfl
  | succ f =>
    unfold sitF
    rw [nx_none h0]
def judF (c : Nat) (len day rank : Nat → Int32) (mn : Int32) (d : Nat) (s : SC) : Nat → SC
  | 0 => s
  | j + 1 => sitF c len day rank (nI d) (nI j) 30 (judF c len day rank mn d s j) mn
def dayF (c J : Nat) (len day rank : Nat → Int32) (mn : Int32) : Nat → SC
  | 0 => (fun _ => -9, fun _ => -9, 0)
  | d + 1 => judF c len day rank mn d (dayF c J len day rank mn d) J
theorem jud_inv {c : Nat} {len day rank : Nat → Int32} {mn : Int32} {d : Nat} (hd : d < 2 ^ 31) {s : SC} (hs : s.2.2 + uh c s.1 = c) : ∀ j, (judF c len day rank mn d s j).2.2 + uh c (judF c len day rank mn d s j).1 = c := by
  intro j
  induction j with
  | zero => exact hs
  | succ j ih => exact sit_inv (nI_m9 hd) 30 _ mn ih
theorem jud_id {c : Nat} {len day rank : Nat → Int32} {mn : Int32} {d : Nat} {s : SC} (h0 : uh c s.1 = 0) : ∀ j, judF c len day rank mn d s j = s := by
  intro j
  induction j with
  | zero => rfl
  | succ j ih =>
    unfold judF
    rw [ih]
    exact sit_id 30 s mn h0
theorem cnt_true (n : Nat) {f : Nat → Bool} (h : ∀ i, f i = true) : cnt f n = n := by
  induction n with
  | zero => rfl
  | succ n ih => unfold cnt; rw [ih, if_pos (h n)]
theorem day_inv {c J : Nat} {len day rank : Nat → Int32} {mn : Int32} : ∀ d, d ≤ 100 → (dayF c J len day rank mn d).2.2 + uh c (dayF c J len day rank mn d).1 = c := by
  intro d
  induction d with
  | zero =>
    intro _
    show 0 + uh c (fun _ => -9) = c
    rw [Nat.zero_add]
    exact cnt_true c (fun i => decide_eq_true rfl)
  | succ d ih => intro hd; exact jud_inv (by omega) (ih (by omega)) J
theorem day_id {c J : Nat} {len day rank : Nat → Int32} {mn : Int32} {d : Nat} (h0 : uh c (dayF c J len day rank mn d).1 = 0) : ∀ i, dayF c J len day rank mn (d + i) = dayF c J len day rank mn d := by
  intro i
  induction i with
  | zero => rfl
  | succ i ih =>
    show judF c len day rank mn (d + i) (dayF c J len day rank mn (d + i)) J = _
    rw [ih]
    exact jud_id h0 J
