/-! tell -/
def fcB (h : H2) (c : Int32) (f : Nat) : Bool := decide (hg h 66 f = c)
theorem e25 (X : XS) (h : H2) (Q : Option Value → H2 → Prop) (ff : Nat) (hf : ff ≤ 60) (d1 : hg h 62 11 = nI ff) (c : Int32) : EC X 25 [.ref 62, .int c] h Q ↔ Q (some (.int (nI (cnt (fcB h c) ff)))) h := by
  have key : ∀ i n, n + i = ff → (E X 25 4 [some (.ref 62), some (.int c), some (.int (nI (cnt (fcB h c) n))), some (.int (nI n))] [] h Q ↔ Q (some (.int (nI (cnt (fcB h c) ff)))) h) := by
    intro i
    induction i with
    | zero =>
      intro n hn
      have : n = ff := by omega
      subst this
      rw [g25_4, d1, if_pos (nI_le (Nat.le_refl _) (by omega))]
    | succ i ih =>
      intro n hn
      have i1 := ih (n + 1) (by omega)
      have kk : (nI n).toNatClampNeg = n := nI_clamp (by omega)
      have ee : cnt (fcB h c) (n + 1) = cnt (fcB h c) n + (if fcB h c n = true then 1 else 0) := rfl
      rw [g25_4, d1, if_neg (nI_ge (by omega) (by omega)), kk, if_neg (bI n 60 (by omega) (by omega)), nI_1, nI_1]
      by_cases q : hg h 66 n = c
      · rw [ee, if_pos (show fcB h c n = true from decide_eq_true q)] at i1
        rw [if_neg (fun z => z q)]
        exact i1
      · rw [ee, if_neg (show ¬ fcB h c n = true from fun z => q (of_decide_eq_true z))] at i1
        rw [if_pos q]
        exact i1
  rw [g25]
  exact key ff 0 (by omega)
theorem e259 (X : XS) (h : H2) (Q : Option Value → H2 → Prop) (ff : Nat) (hf : ff ≤ 60) (d2 : hg h 86 44 = nI ff) (c : Int32) (ag : ∀ f, f < ff → hg h 66 f = hg h 119 f) : EC X 259 [.ref 86, .int c] h Q ↔ Q (some (.int (nI (cnt (fcB h c) ff)))) h := by
  have key : ∀ i n, n + i = ff → (E X 259 4 [some (.ref 86), some (.int c), some (.int (nI (cnt (fcB h c) n))), some (.int (nI n))] [] h Q ↔ Q (some (.int (nI (cnt (fcB h c) ff)))) h) := by
    intro i
    induction i with
    | zero =>
      intro n hn
      have : n = ff := by omega
      subst this
      rw [g259_4, d2, if_pos (nI_le (Nat.le_refl _) (by omega))]
    | succ i ih =>
      intro n hn
      have i1 := ih (n + 1) (by omega)
      have kk : (nI n).toNatClampNeg = n := nI_clamp (by omega)
      have ee : cnt (fcB h c) (n + 1) = cnt (fcB h c) n + (if fcB h c n = true then 1 else 0) := rfl
      rw [g259_4, d2, if_neg (nI_ge (by omega) (by omega)), kk, if_neg (bI n 60 (by omega) (by omega)), nI_1, nI_1, ← ag n (by omega), Int32.add_zero]
      by_cases q : hg h 66 n = c
      · rw [ee, if_pos (show fcB h c n = true from decide_eq_true q)] at i1
        rw [if_neg (fun z => z q)]
        exact i1
      · rw [ee, if_neg (show ¬ fcB h c n = true from fun z => q (of_decide_eq_true z))] at i1
        rw [if_pos q]
        exact i1
  rw [g259]
  exact key ff 0 (by omega)
def tr (x : Int32) (b : Int32) : Int32 := 31 * x + b
theorem e20 (X : XS) (h : H2) (Q : Option Value → H2 → Prop) (x b : Int32) : EC X 20 [.ref 62, .int b] (sI h 62 12 x) Q ↔ Q none (sI h 62 12 (tr x b)) := by
  rw [g20, hg_eq, sI_sI]
  exact Iff.rfl
theorem e258 (X : XS) (h : H2) (Q : Option Value → H2 → Prop) (x b : Int32) : EC X 258 [.ref 86, .int b] (sI h 86 1 x) Q ↔ Q none (sI h 86 1 (tr x b)) := by
  rw [g258, hg_eq, sI_sI]
  exact Iff.rfl
theorem e22 (X : XS) (h : H2) (Q : Option Value → H2 → Prop) (x : Int32) (c : Nat) (hc : c < 12) : EC X 22 [.ref 62, .int (nI c)] (sI h 62 12 x) Q ↔ Q (some (.int (hg h 64 c))) (sI h 62 12 (tr x 1)) := by
  have kc : (nI c).toNatClampNeg = c := nI_clamp (by omega)
  rw [g22]
  show EC X 20 _ _ _ ↔ _
  rw [e20, rV_n]
  dsimp only
  rw [kc, if_neg (bI c 12 hc (by omega)), hg_ne _ (by decide)]
theorem e23 (X : XS) (h : H2) (Q : Option Value → H2 → Prop) (x : Int32) (c ff : Nat) (hc : c < 12) (hf : ff ≤ 60) (d1 : hg h 62 11 = nI ff) : EC X 23 [.ref 62, .int (nI c)] (sI h 62 12 x) Q ↔ Q (some (.int (hg h 64 c + nI (cnt (fcB h (nI c)) ff)))) (sI h 62 12 (tr (tr x 2) 1)) := by
  rw [g23]
  show EC X 20 _ _ _ ↔ _
  rw [e20, rV_n]
  dsimp only
  show EC X 22 _ _ _ ↔ _
  rw [e22 X h _ _ c hc, rI_i]
  dsimp only
  show EC X 25 _ _ _ ↔ _
  have eq : ∀ y, fcB (sI h 62 12 y) (nI c) = fcB h (nI c) := fun y => by
    funext f
    unfold fcB
    rw [hg_ne _ (by decide)]
  rw [e25 X _ _ ff hf (by rw [hg_nj _ (by decide), d1]), rI_i, eq]
theorem two_x (x n : Int32) : x + n + x = 2 * x + n := by
  rw [show (2 : Int32) = 1 + 1 by decide, Int32.add_mul, Int32.one_mul, Int32.add_assoc, Int32.add_comm n x, ← Int32.add_assoc]
theorem c_tell (X : XS) (h : H2) (iv : InvK h) (p0 : Int32) : EC X 155 [.ref 5, .int p0] h (fun v1 h1 => EC X 260 [.ref 86, .int p0] h1 (fun v2 h2 => v1 = v2 ∧ InvK h2 ∧ Wr [0, 6] h h2)) := by
  have iv' := iv
  obtain ⟨cc, pp, ff, ok⟩ := iv
  have ok' := ok
  obtain ⟨h1, h2, h3, a1, a2, b1, b2, d1, d2, t, ks, fs⟩ := ok
  rw [g155]
  show EC X 8 _ _ _
  rw [e8n X h _ cc h1 a1, rI_i]
  dsimp only
  by_cases c1 : 0 ≤ p0 ∧ p0 < nI cc
  · rw [b2i_t c1, if_neg n1_0]
    obtain ⟨c, hc, rfl⟩ := (inR_lt (show cc < 2 ^ 31 by omega)).mp c1
    have kc : (nI c).toNatClampNeg = c := nI_clamp (by omega)
    have bc := bI c 12 (show c < 12 by omega) (by omega)
    obtain ⟨k1, k2⟩ := ks c hc
    have s0 : ∀ (R : H2 → Prop), R h ↔ R (sI h 62 12 (hg h 86 1)) := fun R => by rw [sI_self' t]
    have ag : ∀ f, f < ff → hg h 66 f = hg h 119 f := by
      intro f hf
      obtain ⟨p, dd, -, -, -, -, -, -, o⟩ := fs f hf
      rcases o with ⟨o1, o2, -⟩ | ⟨c, -, o1, o2⟩
      · rw [o1, o2]
      · rw [o1, o2]
    -- the reference's side
    have md : ∀ x R, EC X 260 [.ref 86, .int (nI c)] (sI h 62 12 x) R ↔ if hg h 63 c = 1 then R (some (.int (hg h 64 c + nI (cnt (fcB h (nI c)) ff)))) (sI (sI h 62 12 x) 86 1 (tr (tr (hg h 86 1) 2) 1)) else if hg h 63 c = 2 then R (some (.int (2 * hg h 64 c + nI (cnt (fcB h (nI c)) ff)))) (sI (sI h 62 12 x) 86 1 (tr (tr (tr (tr (hg h 86 1) 3) 2) 1) 1)) else R (some (.int (hg h 64 c))) (sI (sI h 62 12 x) 86 1 (tr (hg h 86 1) 1)) := by
      intro x R
      have r40 : hg (sI h 62 12 x) 86 40 = nI cc := by rw [hg_ne _ (by decide), a2]
      have r1 : hg (sI h 62 12 x) 86 1 = hg h 86 1 := by rw [hg_ne _ (by decide)]
      have r116 : hg (sI h 62 12 x) 116 c = hg h 63 c := by rw [hg_ne _ (by decide), k1]
      have r117 : ∀ y, hg (sI (sI h 62 12 x) 86 1 y) 117 c = hg h 64 c := fun y => by rw [hg_ne _ (by decide), hg_ne _ (by decide), k2]
      have r44 : ∀ y, hg (sI (sI h 62 12 x) 86 1 y) 86 44 = nI ff := fun y => by rw [hg_nj _ (by decide), hg_ne _ (by decide), d2]
      have rag : ∀ y f, f < ff → hg (sI (sI h 62 12 x) 86 1 y) 66 f = hg (sI (sI h 62 12 x) 86 1 y) 119 f := fun y f hf => by rw [hg_ne _ (by decide), hg_ne _ (by decide), hg_ne _ (by decide), hg_ne _ (by decide), ag f hf]
      have eq : ∀ y, fcB (sI (sI h 62 12 x) 86 1 y) (nI c) = fcB h (nI c) := fun y => by
        funext f
        unfold fcB
        rw [hg_ne _ (by decide), hg_ne _ (by decide)]
      have s1 : sI (sI h 62 12 x) 86 1 (hg h 86 1) = sI h 62 12 x := sI_self' r1
      rw [← s1]
      have r116' : hg (sI (sI h 62 12 x) 86 1 (hg h 86 1)) 116 c = hg h 63 c := by rw [s1, r116]
      have r40' : hg (sI (sI h 62 12 x) 86 1 (hg h 86 1)) 86 40 = nI cc := by rw [s1, r40]
      rw [g260]
      show EC X 215 _ _ _ ↔ _
      rw [e215, rI_i, r40', b2i_t c1]
      dsimp only
      rw [if_pos n1_0, kc, if_neg bc, r116']
      by_cases q1 : hg h 63 c = 1
      · rw [if_pos q1, if_pos q1]
        show EC X 258 _ _ _ ↔ _
        rw [e258, rV_n]
        dsimp only
        show EC X 258 _ _ _ ↔ _
        rw [e258, rV_n]
        dsimp only
        rw [if_neg bc]
        show EC X 259 _ _ _ ↔ _
        rw [e259 X _ _ ff h3 (r44 _) _ (rag _), rI_i, r117, eq, s1]
      · rw [if_neg q1, if_neg q1]
        by_cases q2 : hg h 63 c = 2
        · rw [if_pos q2, if_pos q2]
          show EC X 258 _ _ _ ↔ _
          rw [e258, rV_n]
          dsimp only
          show EC X 258 _ _ _ ↔ _
          rw [e258, rV_n]
          dsimp only
          show EC X 258 _ _ _ ↔ _
          rw [e258, rV_n]
          dsimp only
          show EC X 258 _ _ _ ↔ _
          rw [e258, rV_n]
          dsimp only
          rw [if_neg bc]
          show EC X 259 _ _ _ ↔ _
          rw [e259 X _ _ ff h3 (r44 _) _ (rag _), rI_i, r117, eq, s1]
        · rw [if_neg q2, if_neg q2]
          show EC X 258 _ _ _ ↔ _
          rw [e258, rV_n]
          dsimp only
          rw [if_neg bc, r117, s1]
    show EC X 21 _ _ _
    rw [g21, kc, if_neg bc]
    have s2 : sI h 62 12 (hg h 86 1) = h := sI_self' t
    by_cases q1 : hg h 63 c = 1
    · rw [if_pos q1]
      show EC X 23 _ _ _
      have := (e23 X h (fun v h1 => rI v False fun x => rI (some (.int x)) False fun x => EC X 260 [.ref 86, .int (nI c)] h1 (fun v2 h2 => some (.int x) = v2 ∧ InvK h2 ∧ Wr [0, 6] h h2)) (hg h 86 1) c ff (by omega) h3 d1).mpr (by
        rw [rI_i, rI_i, md, if_pos q1]
        exact ⟨rfl, tr2_ok ok' _⟩)
      rw [s2] at this
      exact this
    · rw [if_neg q1]
      by_cases q2 : hg h 63 c = 2
      · rw [if_pos q2]
        show EC X 24 _ _ _
        have key : EC X 24 [.ref 62, .int (nI c)] (sI h 62 12 (hg h 86 1)) (fun v h1 => rI v False fun x => rI (some (.int x)) False fun x => EC X 260 [.ref 86, .int (nI c)] h1 (fun v2 h2 => some (.int x) = v2 ∧ InvK h2 ∧ Wr [0, 6] h h2)) := by
          rw [g24]
          show EC X 20 _ _ _
          rw [e20, rV_n]
          dsimp only
          show EC X 23 _ _ _
          rw [e23 X h _ _ c ff (by omega) h3 d1, rI_i]
          dsimp only
          show EC X 22 _ _ _
          rw [e22 X h _ _ c (by omega), rI_i]
          dsimp only
          rw [rI_i, rI_i, md, if_neg q1, if_pos q2, two_x]
          exact ⟨rfl, tr2_ok ok' _⟩
        rw [s2] at key
        exact key
      · rw [if_neg q2]
        show EC X 22 _ _ _
        have := (e22 X h (fun v h1 => rI v False fun x => rI (some (.int x)) False fun x => EC X 260 [.ref 86, .int (nI c)] h1 (fun v2 h2 => some (.int x) = v2 ∧ InvK h2 ∧ Wr [0, 6] h h2)) (hg h 86 1) c (by omega)).mpr (by
          rw [rI_i, rI_i, md, if_neg q1, if_neg q2]
          exact ⟨rfl, tr2_ok ok' _⟩)
        rw [s2] at this
        exact this
  · rw [b2i_f c1, if_pos rfl, g260]
    show EC X 215 _ _ _
    rw [e215, rI_i, a2, b2i_f c1]
    dsimp only
    rw [if_neg (fun z => z rfl)]
    exact ⟨rfl, iv', Wr_refl _ _⟩
/-! chase -/
def seaP (x y : Int32) : Prop := (0 ≤ x ∧ x ≤ 30) ∧ (0 ≤ y ∧ y ≤ 30)
theorem e164 (X : XS) (h : H2) (Q : Option Value → H2 → Prop) (x y : Int32) : EC X 164 [.int x, .int y] h Q ↔ Q (some (.int (b2i ((0 ≤ x ∧ x ≤ 30) ∧ (0 ≤ y ∧ y ≤ 30))))) h := by
  rw [g164]
  simp only [cI, e161, rI_i, b2i_0]
  by_cases c1 : 0 ≤ x ∧ x ≤ 30
  · rw [if_neg (fun z => z c1)]
    by_cases c2 : 0 ≤ y ∧ y ≤ 30
    · rw [if_neg (fun z => z c2), b2i_t ⟨c1, c2⟩]
    · rw [if_pos c2, b2i_f (fun z => c2 z.2)]
  · rw [if_pos c1, b2i_f (fun z => c1 z.1)]
def abI (v : Int32) : Int32 := if 0 ≤ v then v else -v
theorem e249 (X : XS) (h : H2) (Q : Option Value → H2 → Prop) (v : Int32) : EC X 249 [.int v] h Q ↔ Q (some (.int (abI v))) h := by
  rw [g249]
  unfold abI
  by_cases c : 0 ≤ v
  · rw [if_pos c, if_pos c]
  · rw [if_neg c, if_neg c]
theorem abI_0 (v : Int32) : (if 0 ≤ v then v else 0 - v) = abI v := by
  unfold abI
  rw [Int32.zero_sub]
def chB (m x y dx dy bx by' v : Int32) (t : Nat) : Bool := decide (((0 ≤ x + nI t * dx ∧ x + nI t * dx ≤ 30) ∧ (0 ≤ y + nI t * dy ∧ y + nI t * dy ≤ 30)) ∧ x + nI t * dx < m ∧ abI (x + nI t * dx - bx) ≤ nI t * v ∧ abI (y + nI t * dy - by') ≤ nI t * v)
theorem e147 (X : XS) (h : H2) (Q : Option Value → H2 → Prop) (m : Int32) (em : hg h 5 10 = m) (x y dx dy bx by' v : Int32) : E X 147 55 [some (.ref 5), some (.int x), some (.int y), some (.int dx), some (.int dy), some (.int bx), some (.int by'), some (.int v), some (.int 0), none, none, none] [] h Q ↔ Q (some (.int (oN (frs (chB m x y dx dy bx by' v) 24)))) h := by
  have e23 : (23 : Int32) = nI 23 := by decide
  have key : ∀ i t u1 u2 u3, t + i = 24 → (∀ j, j < t → chB m x y dx dy bx by' v j = false) → (E X 147 55 [some (.ref 5), some (.int x), some (.int y), some (.int dx), some (.int dy), some (.int bx), some (.int by'), some (.int v), some (.int (nI t)), u1, u2, u3] [] h Q ↔ Q (some (.int (oN (frs (chB m x y dx dy bx by' v) 24)))) h) := by
    intro i
    induction i with
    | zero =>
      intro t u1 u2 u3 ht hf
      have : t = 24 := by omega
      subst this
      rw [g147_55, if_pos (by rw [e23]; exact nI_lt (by omega) (by omega)), frs_none hf]
      exact Iff.rfl
    | succ i ih =>
      intro t u1 u2 u3 ht hf
      have no : ¬ chB m x y dx dy bx by' v t = true → ∀ u1 u2 u3, (E X 147 55 [some (.ref 5), some (.int x), some (.int y), some (.int dx), some (.int dy), some (.int bx), some (.int by'), some (.int v), some (.int (nI (t + 1))), u1, u2, u3] [] h Q ↔ Q (some (.int (oN (frs (chB m x y dx dy bx by' v) 24)))) h) := by
        intro z u1 u2 u3
        refine ih (t + 1) u1 u2 u3 (by omega) (fun j hj => ?_)
        by_cases e : j = t
        · subst e
          cases hh : chB m x y dx dy bx by' v j with
          | true => exact absurd hh z
          | false => rfl
        · exact hf j (by omega)
      rw [g147_55, if_neg (by rw [e23]; exact nI_nlt (by omega) (by omega))]
      show EC X 164 _ _ _ ↔ _
      rw [e164, rI_i]
      dsimp only
      rw [em, abI_0, abI_0, nI_1]
      by_cases c1 : (0 ≤ x + nI t * dx ∧ x + nI t * dx ≤ 30) ∧ (0 ≤ y + nI t * dy ∧ y + nI t * dy ≤ 30)
      · rw [b2i_t c1, if_neg n1_0]
        by_cases c2 : m ≤ x + nI t * dx
        · rw [if_pos c2]
          exact no (fun z => absurd (of_decide_eq_true z).2.1 (Int32.not_lt.mpr c2)) _ _ _
        · rw [if_neg c2]
          by_cases c3 : nI t * v < abI (x + nI t * dx - bx)
          · rw [if_pos c3]
            exact no (fun z => absurd c3 (i_nlt.mpr (of_decide_eq_true z).2.2.1)) _ _ _
          · rw [if_neg c3]
            by_cases c4 : nI t * v < abI (y + nI t * dy - by')
            · rw [if_pos c4]
              exact no (fun z => absurd c4 (i_nlt.mpr (of_decide_eq_true z).2.2.2)) _ _ _
            · rw [if_neg c4, frs_some (p := chB m x y dx dy bx by' v) (decide_eq_true ⟨c1, Int32.not_le.mp c2, i_nlt.mp c3, i_nlt.mp c4⟩) hf (by omega)]
              exact Iff.rfl
      · rw [b2i_f c1, if_pos rfl]
        exact no (fun z => c1 (of_decide_eq_true z).1) _ _ _
  exact key 24 0 _ _ _ (by omega) (fun j hj => by omega)
theorem e250 (X : XS) (h : H2) (Q : Option Value → H2 → Prop) (m : Int32) (em : hg h 86 70 = m) (x y dx dy bx by' v d : Int32) : E X 250 91 [some (.ref 86), some (.int x), some (.int y), some (.int dx), some (.int dy), some (.int bx), some (.int by'), some (.int v), some (.int d), some (.int 0), none, none, none] [] h Q ↔ Q (some (.int (oN (frs (chB m x y dx dy bx by' v) 24)))) h := by
  have e24 : (24 : Int32) = nI 24 := by decide
  have key : ∀ i t u1 u2 u3, t + i = 24 → (∀ j, j < t → chB m x y dx dy bx by' v j = false) → (E X 250 91 [some (.ref 86), some (.int x), some (.int y), some (.int dx), some (.int dy), some (.int bx), some (.int by'), some (.int v), some (.int d), some (.int (nI t)), u1, u2, u3] [] h Q ↔ Q (some (.int (oN (frs (chB m x y dx dy bx by' v) 24)))) h) := by
    intro i
    induction i with
    | zero =>
      intro t u1 u2 u3 ht hf
      have : t = 24 := by omega
      subst this
      rw [g250_91u, if_pos (by rw [e24]; exact nI_le (Nat.le_refl _) (by omega)), frs_none hf]
      exact Iff.rfl
    | succ i ih =>
      intro t u1 u2 u3 ht hf
      have no : ¬ chB m x y dx dy bx by' v t = true → ∀ u1 u2 u3, (E X 250 91 [some (.ref 86), some (.int x), some (.int y), some (.int dx), some (.int dy), some (.int bx), some (.int by'), some (.int v), some (.int d), some (.int (nI (t + 1))), u1, u2, u3] [] h Q ↔ Q (some (.int (oN (frs (chB m x y dx dy bx by' v) 24)))) h) := by
        intro z u1 u2 u3
        refine ih (t + 1) u1 u2 u3 (by omega) (fun j hj => ?_)
        by_cases e : j = t
        · subst e
          cases hh : chB m x y dx dy bx by' v j with
          | true => exact absurd hh z
          | false => rfl
        · exact hf j (by omega)
      rw [g250_91u, if_neg (by rw [e24]; exact nI_ge (by omega) (by omega)), Int32.mul_comm dx, Int32.mul_comm dy]
      simp only [cI, e168, rI_i, b2i_0, g250_150u, g250_151u, em, nI_1, n1_0, if_true, if_false, e249]
      rw [Int32.mul_comm v]
      by_cases c1 : 0 ≤ x + nI t * dx ∧ x + nI t * dx ≤ 30
      · rw [if_neg (fun z => z c1)]
        by_cases c1' : 0 ≤ y + nI t * dy ∧ y + nI t * dy ≤ 30
        · rw [if_neg (fun z => z c1')]
          by_cases c2 : m ≤ x + nI t * dx
          · rw [if_pos c2]
            exact no (fun z => absurd (of_decide_eq_true z).2.1 (Int32.not_lt.mpr c2)) _ _ _
          · rw [if_neg c2]
            by_cases c3 : nI t * v < abI (x + nI t * dx - bx)
            · rw [if_pos c3]
              exact no (fun z => absurd c3 (i_nlt.mpr (of_decide_eq_true z).2.2.1)) _ _ _
            · rw [if_neg c3]
              by_cases c4 : nI t * v < abI (y + nI t * dy - by')
              · rw [if_pos c4]
                exact no (fun z => absurd c4 (i_nlt.mpr (of_decide_eq_true z).2.2.2)) _ _ _
              · rw [if_neg c4, frs_some (p := chB m x y dx dy bx by' v) (decide_eq_true ⟨⟨c1, c1'⟩, Int32.not_le.mp c2, i_nlt.mp c3, i_nlt.mp c4⟩) hf (by omega)]
                exact Iff.rfl
        · rw [if_pos c1']
          exact no (fun z => c1' (of_decide_eq_true z).1.2) _ _ _
      · rw [if_pos c1]
        exact no (fun z => c1 (of_decide_eq_true z).1.1) _ _ _
  exact key 24 0 _ _ _ (by omega) (fun j hj => by omega)
