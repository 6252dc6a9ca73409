/-! more -/
def inV (r : Nat → Int32) (d : Int32) : Bool := decide ((r 3 ≤ d ∧ d ≤ r 4) ∧ (r 6 = -9 ∨ d < r 6))
def stV (r : Nat → Int32) (v k s w d : Int32) : Bool := decide (r 0 = v ∧ (r 1 = 4 ∨ r 1 = k) ∧ (r 2 = -9 ∨ r 2 < s) ∧ inV r d = true ∧ (r 5 >>> (w &&& 31)) &&& 1 = 0)
theorem stV_congr {r r' : Nat → Int32} (hr : ∀ i, i < 7 → r i = r' i) (v k s w d : Int32) : stV r v k s w d = stV r' v k s w d := by
  unfold stV inV
  rw [hr 0 (by omega), hr 1 (by omega), hr 2 (by omega), hr 3 (by omega), hr 4 (by omega), hr 5 (by omega), hr 6 (by omega)]
theorem stB_V (h : H2) (l : Nat) (v k s w d : Int32) : stB h l v k s w d = stV (fun i => hg h (90 + i) l) v k s w d := rfl
theorem e42v (X : XS) (h : H2) (Q : Option Value → H2 → Prop) (a : Nat) (a1 : 137 ≤ a) (a2 : a < h.1) (r : Nat → Int32) (ar : ∀ i, i < 7 → hg h a i = r i) (v k s w d : Int32) : EC X 42 [.ref a, .int v, .int k, .int s, .int w, .int d] h Q ↔ Q (some (.int (bz (stV r v k s w d)))) h := by
  have ok := okL X.1 a1 a2
  have e41' : ∀ (R : Option Value → H2 → Prop), EC X 41 [.ref a, .int d] h R ↔ R (some (.int (bz (inV r d)))) h := by
    intro R
    rw [g41]
    simp only [ok, cond_true, cI, e161, rI_i, b2i_0, ar 3 (by omega), ar 4 (by omega), ar 6 (by omega)]
    by_cases c1 : r 3 ≤ d ∧ d ≤ r 4
    · rw [if_neg (fun z => z c1)]
      by_cases c2 : r 6 = -9
      · rw [if_pos c2, show inV r d = true from decide_eq_true ⟨c1, Or.inl c2⟩]
        exact Iff.rfl
      · rw [if_neg c2]
        by_cases c3 : r 6 ≤ d
        · rw [if_pos c3, show inV r d = false from decide_eq_false (fun z => z.2.elim c2 (fun q => absurd q (Int32.not_lt.mpr c3)))]
          exact Iff.rfl
        · rw [if_neg c3, show inV r d = true from decide_eq_true ⟨c1, Or.inr (Int32.not_le.mp c3)⟩]
          exact Iff.rfl
    · rw [if_pos c1, show inV r d = false from decide_eq_false (fun z => c1 z.1)]
      exact Iff.rfl
  rw [g42]
  simp only [ok, cond_true, cI, e41', rI_i, g42_33, ar 0 (by omega), ar 1 (by omega), ar 2 (by omega), ar 5 (by omega), bz_0]
  have no : (stV r v k s w d = true → False) → (Q (some (.int 0)) h ↔ Q (some (.int (bz (stV r v k s w d)))) h) := by
    intro z
    have : stV r v k s w d = false := by
      cases hh : stV r v k s w d with
      | true => exact (z hh).elim
      | false => rfl
    rw [this]
    exact Iff.rfl
  have fin : r 0 = v → (r 1 = 4 ∨ r 1 = k) → inV r d = true → ((if r 2 = -9 then (if ¬ (r 5 >>> (w &&& 31)) &&& 1 = 0 then Q (some (.int 0)) h else Q (some (.int 1)) h) else if s ≤ r 2 then Q (some (.int 0)) h else (if ¬ (r 5 >>> (w &&& 31)) &&& 1 = 0 then Q (some (.int 0)) h else Q (some (.int 1)) h)) ↔ Q (some (.int (bz (stV r v k s w d)))) h) := by
    intro f1 f2 f3
    by_cases c5 : (r 5 >>> (w &&& 31)) &&& 1 = 0
    · rw [if_neg (show ¬ ¬ (r 5 >>> (w &&& 31)) &&& 1 = 0 from fun z => z c5)]
      by_cases c4 : r 2 = -9
      · rw [if_pos c4, show stV r v k s w d = true from decide_eq_true ⟨f1, f2, Or.inl c4, f3, c5⟩]
        exact Iff.rfl
      · rw [if_neg c4]
        by_cases c6 : s ≤ r 2
        · rw [if_pos c6]
          refine no (fun z => ?_)
          rcases (of_decide_eq_true z).2.2.1 with q | q
          · exact c4 q
          · exact absurd q (Int32.not_lt.mpr c6)
        · rw [if_neg c6, show stV r v k s w d = true from decide_eq_true ⟨f1, f2, Or.inr (Int32.not_le.mp c6), f3, c5⟩]
          exact Iff.rfl
    · rw [if_pos c5, ite_self, ite_self]
      exact no (fun z => c5 (of_decide_eq_true z).2.2.2.2)
  by_cases c1 : inV r d = true
  · rw [if_neg (fun z => z c1)]
    by_cases c2 : r 0 = v
    · rw [if_neg (fun z => z c2)]
      by_cases c3 : r 1 = 4
      · rw [if_pos c3]
        exact fin c2 (Or.inl c3) c1
      · rw [if_neg c3]
        by_cases c4 : r 1 = k
        · rw [if_neg (fun z => z c4)]
          exact fin c2 (Or.inr c4) c1
        · rw [if_pos c4]
          exact no (fun z => (of_decide_eq_true z).2.1.elim c3 c4)
    · rw [if_pos c2]
      exact no (fun z => c2 (of_decide_eq_true z).1)
  · rw [if_pos c1]
    exact no (fun z => c1 (of_decide_eq_true z).2.2.2.1)
theorem LsOk_D {h : H2} {c : Nat} {ad : Nat → Nat} (ok : LsOk h c ad) (k a n q : Nat) (r' : Nat → Int32) : LsOk (dH (rdG h k a n) h.1 q r') c ad := by
  have sz := ok.2.2.2.2.2.1
  have fz := ok.2.2.2.2.2.2
  have hc := ok.1
  have rd : ∀ b j, b ≠ h.1 → b ≠ 15 → b ≠ 6 → b ≠ 14 → b ≠ 16 → hg (dH (rdG h k a n) h.1 q r') b j = hg h b j := by
    intro b j z3 z4 z5 z6 z7
    rw [dH_o _ _ _ _ _ _ z3 (by omega), rdG_o _ _ _ _ _ _ z5 z6 z4 z7]
  refine InvL_w ok ?_ ?_ ?_ ?_ ?_ ?_ ?_
  · exact rd _ _ (by omega) (by omega) (by omega) (by omega) (by omega)
  · exact rd _ _ (by omega) (by omega) (by omega) (by omega) (by omega)
  · intro l _; rfl
  · intro b i z1 z2
    exact rd _ _ (by omega) (by omega) (by omega) (by omega) (by omega)
  · intro b j z1 z2 z3
    exact rd _ _ (by omega) (by omega) (by omega) (by omega) (by omega)
  · exact Nat.le_succ _
  · intro b i z1
    have z1' : h.1 + 1 ≤ b := z1
    rw [rd _ _ (by omega) (by omega) (by omega) (by omega) (by omega)]
    exact fz b (by omega) i
theorem LsOk_M {d : H2} {c : Nat} {ad : Nat → Nat} (ok : LsOk d c ad) (s p : Nat) (w x : Int32) (V' : Nat → Int32) : LsOk (mH (sI (sI d 86 0 0) 86 14 x) s p w V') c ad := by
  have sz := ok.2.2.2.2.2.1
  have fz := ok.2.2.2.2.2.2
  have hc := ok.1
  have rd : ∀ b j, b ≠ 86 → ¬ ((90 ≤ b ∧ b < 97) ∧ j = 24) → hg (mH (sI (sI d 86 0 0) 86 14 x) s p w V') b j = hg d b j := by
    intro b j z1 z2
    rw [mH_o _ _ _ _ _ _ _ (by omega) (by omega) z2, hg_ne _ z1, hg_ne _ z1]
  refine InvL_w ok ?_ ?_ ?_ ?_ ?_ ?_ ?_
  · exact rd _ _ (by omega) (by omega)
  · rw [mH_o _ _ _ _ _ _ _ (by omega) (by omega) (by omega), hg_nj _ (by decide), hg_nj _ (by decide)]
  · intro l _; rfl
  · intro b i z1 z2
    exact rd _ _ (by omega) (by omega)
  · intro b j z1 z2 z3
    exact rd _ _ (by omega) (by omega)
  · exact Nat.le_refl _
  · intro b i z1
    have z1' : d.1 ≤ b := z1
    rw [rd _ _ (by omega) (by omega)]
    exact fz b z1' i
def moB (op : Nat → Bool) (r : Nat → Int32) (h : H2) (d : Int32) (s : Nat) : Bool := op s && stV r (hg h 22 s) (hg h 23 s) (hg h 24 s) (hg h 25 s) d
theorem e102 (X : XS) (h : H2) (Q : Option Value → H2 → Prop) (c cs : Nat) (ad : Nat → Nat) (ok : LsOk h c ad) (ws : WsOk h cs) (a : Nat) (a1 : 137 ≤ a) (a2 : a < h.1) (r : Nat → Int32) (ar : ∀ i, i < 7 → hg h a i = r i) (d : Int32) : EC X 102 [.ref 19, .ref 17, .ref a, .int d] h Q ↔ Q (some (.int (nI (cnt (moB (opB h c d) r h d) cs)))) h := by
  obtain ⟨hc, c1, -, so⟩ := ws
  have okl := okL X.1 a1 a2
  have key : ∀ i n, n + i = cs → (E X 102 6 [some (.ref 19), some (.ref 17), some (.ref a), some (.int d), some (.int (nI (cnt (moB (opB h c d) r h d) n))), some (.int (nI n))] [] h Q ↔ Q (some (.int (nI (cnt (moB (opB h c d) r h d) cs)))) h) := by
    intro i
    induction i with
    | zero =>
      intro n hn
      have : n = cs := by omega
      subst this
      rw [g102_6, c1, if_pos (nI_le (Nat.le_refl _) (by omega))]
    | succ i ih =>
      intro n hn
      have i1 := ih (n + 1) (by omega)
      have kk : (nI n).toNatClampNeg = n := nI_clamp (by omega)
      have b2 := bI n 24 (show n < 24 by omega) (by omega)
      have ee : cnt (moB (opB h c d) r h d) (n + 1) = cnt (moB (opB h c d) r h d) n + (if moB (opB h c d) r h d n = true then 1 else 0) := rfl
      rw [g102_6, c1, if_neg (nI_ge (by omega) (by omega))]
      show EC X 101 _ _ _ ↔ _
      rw [e101 X h _ c ad ok n (by omega), rI_i]
      dsimp only
      by_cases q : opB h c d n = true
      · rw [if_neg (fun z => (bz_0 _).mp z q), kk, if_neg b2, if_neg b2, if_neg b2, if_neg b2, okl]
        show EC X 42 _ _ _ ↔ _
        rw [e42v X h _ a a1 a2 r ar, rI_i]
        dsimp only
        have em : moB (opB h c d) r h d n = stV r (hg h 22 n) (hg h 23 n) (hg h 24 n) (hg h 25 n) d := by
          unfold moB
          rw [q, Bool.true_and]
        rw [em] at ee
        by_cases q2 : stV r (hg h 22 n) (hg h 23 n) (hg h 24 n) (hg h 25 n) d = true
        · rw [ee, if_pos q2] at i1
          rw [if_neg (fun z => (bz_0 _).mp z q2), nI_1, nI_1]
          exact i1
        · rw [ee, if_neg q2] at i1
          rw [if_pos ((bz_0 _).mpr q2), nI_1]
          exact i1
      · have em : ¬ moB (opB h c d) r h d n = true := by
          unfold moB
          intro z
          rw [Bool.and_eq_true] at z
          exact q z.1
        rw [ee, if_neg em] at i1
        rw [if_pos ((bz_0 _).mpr q), nI_1]
        exact i1
  rw [g102]
  exact key cs 0 (by omega)
theorem e195 (X : XS) (h : H2) (Q : Option Value → H2 → Prop) (c cs : Nat) (ad : Nat → Nat) (ok : LsOk h c ad) (ws : WsOk h cs) (b4 : bt (hg h 95 24) 4 = false) (d u2 u3 u4 u5 u6 u7 : Int32) : E X 195 85 [some (.ref 86), some (.int d), some (.int u2), some (.int u3), some (.int u4), some (.int u5), some (.int u6), some (.int u7), some (.int 0), some (.int 0)] [] h Q ↔ Q (some (.int (nI (cnt (moB (opB h c d) (fun i => hg h (90 + i) 24) h d) cs)))) h := by
  obtain ⟨hc, -, c1, so⟩ := ws
  have e24 : (24 : Int32) = nI 24 := by decide
  have key : ∀ i n, n + i = cs → (E X 195 85 [some (.ref 86), some (.int d), some (.int u2), some (.int u3), some (.int u4), some (.int u5), some (.int u6), some (.int u7), some (.int (nI (cnt (moB (opB h c d) (fun i => hg h (90 + i) 24) h d) n))), some (.int (nI n))] [] h Q ↔ Q (some (.int (nI (cnt (moB (opB h c d) (fun i => hg h (90 + i) 24) h d) cs)))) h) := by
    intro i
    induction i with
    | zero =>
      intro n hn
      have : n = cs := by omega
      subst this
      rw [g195_85, c1, if_pos (nI_le (Nat.le_refl _) (by omega))]
    | succ i ih =>
      intro n hn
      have i1 := ih (n + 1) (by omega)
      have kk : (nI n).toNatClampNeg = n := nI_clamp (by omega)
      have b2 := bI n 24 (show n < 24 by omega) (by omega)
      have son := so n (by omega)
      have ee : cnt (moB (opB h c d) (fun i => hg h (90 + i) 24) h d) (n + 1) = cnt (moB (opB h c d) (fun i => hg h (90 + i) 24) h d) n + (if moB (opB h c d) (fun i => hg h (90 + i) 24) h d n = true then 1 else 0) := rfl
      rw [g195_85, c1, if_neg (nI_ge (by omega) (by omega))]
      show EC X 192 _ _ _ ↔ _
      rw [e192 X h _ c ad ok n (by omega) son, rI_i]
      dsimp only
      obtain ⟨x, y, -, -, -, -, -, -, d1, d2, d3, d4⟩ := son
      by_cases q : opB h c d n = true
      · rw [if_neg (fun z => (bz_0 _).mp z q), kk, if_neg b2, if_neg b2, if_neg b2, if_neg b2, ← d1, ← d2, ← d3, ← d4]
        show EC X 185 _ _ _ ↔ _
        rw [e24, e185 X h _ 24 (by omega) b4, rI_i]
        dsimp only
        have em : moB (opB h c d) (fun i => hg h (90 + i) 24) h d n = stB h 24 (hg h 22 n) (hg h 23 n) (hg h 24 n) (hg h 25 n) d := by
          unfold moB
          rw [q, Bool.true_and]
          rfl
        rw [em] at ee
        by_cases q2 : stB h 24 (hg h 22 n) (hg h 23 n) (hg h 24 n) (hg h 25 n) d = true
        · rw [ee, if_pos q2] at i1
          rw [if_neg (fun z => (bz_0 _).mp z q2), nI_1, nI_1]
          exact i1
        · rw [ee, if_neg q2] at i1
          rw [if_pos ((bz_0 _).mpr q2), nI_1, Int32.add_zero]
          exact i1
      · have em : ¬ moB (opB h c d) (fun i => hg h (90 + i) 24) h d n = true := by
          unfold moB
          intro z
          rw [Bool.and_eq_true] at z
          exact q z.1
        rw [ee, if_neg em] at i1
        rw [if_pos ((bz_0 _).mpr q), nI_1, Int32.add_zero]
        exact i1
  exact key cs 0 (by omega)
theorem more_A (X : XS) (h : H2) (iv : InvHL h) (p0 p1 p2 p3 p4 : Int32) (hp : ¬ (0 ≤ p1 ∧ p1 ≤ 3)) : EC X 116 [.ref 5, .int p0, .int p1, .int p2, .int p3, .int p4] h (fun v1 h1 => EC X 195 [.ref 86, .int p0, .int p1, .int p2, .int p3, .int p4] h1 (fun v2 h2 => v1 = v2 ∧ InvHL h2 ∧ Wr [0, 1, 2] h h2 ∧ h2.1 ≤ h.1 + 1)) := by
  rw [g116]
  show EC X 162 _ _ _
  rw [e162, rI_i]
  dsimp only
  show EC X 84 _ h _
  rw [e84_A X h _ p1 p2 _ p3 p4 hp, rI_i]
  dsimp only
  rw [if_neg n_1, g195]
  show EC X 170 _ _ _
  rw [e170, rI_i, b2i_f hp]
  dsimp only
  rw [if_neg (fun z => z rfl)]
  exact ⟨rfl, InvHL_f iv 0, Wr_f (Wr_refl _ _) 0 (by decide), Nat.le_succ _⟩
theorem more_B (X : XS) (h : H2) (iv : InvHL h) (p0 p1 p2 p3 p4 : Int32) (hp : 0 ≤ p1 ∧ p1 ≤ 3) (hq : ¬ ((0 ≤ p2 ∧ p2 ≤ 2) ∧ (0 ≤ p0 ∧ p0 ≤ 99))) : EC X 116 [.ref 5, .int p0, .int p1, .int p2, .int p3, .int p4] h (fun v1 h1 => EC X 195 [.ref 86, .int p0, .int p1, .int p2, .int p3, .int p4] h1 (fun v2 h2 => v1 = v2 ∧ InvHL h2 ∧ Wr [0, 1, 2] h h2 ∧ h2.1 ≤ h.1 + 1)) := by
  rw [g116]
  show EC X 162 _ _ _
  rw [e162, rI_i]
  dsimp only
  show EC X 84 _ h _
  rw [e84_B X h _ p1 p2 _ p3 p4 hp (fun z => hq ⟨z.1, by have := z.2; rw [b2i_0] at this; exact Decidable.not_not.mp this⟩), rI_i]
  dsimp only
  rw [if_neg n_2, g195]
  show EC X 170 _ _ _
  rw [e170, rI_i, b2i_t hp]
  dsimp only
  rw [if_pos n1_0]
  show EC X 171 _ _ _
  rw [e171, rI_i]
  dsimp only
  by_cases c1 : 0 ≤ p2 ∧ p2 ≤ 2
  · rw [b2i_t c1, if_neg n1_0]
    show EC X 169 _ _ _
    rw [e169, rI_i, b2i_f (fun z => hq ⟨c1, z⟩)]
    dsimp only
    rw [if_neg (fun z => z rfl)]
    exact ⟨rfl, InvHL_f iv 0, Wr_f (Wr_refl _ _) 0 (by decide), Nat.le_succ _⟩
  · rw [b2i_f c1, if_pos rfl]
    exact ⟨rfl, InvHL_f iv 0, Wr_f (Wr_refl _ _) 0 (by decide), Nat.le_succ _⟩
theorem more_F (X : XS) (h : H2) (iv : InvHL h) (k L : Nat) (hk : k < 4) (hL : L ≤ 60) (e13 : hg h 13 k = nI L) (p0 p2 p3 p4 : Int32) (hd : 0 ≤ p0 ∧ p0 ≤ 99) (hq : 0 ≤ p2 ∧ p2 ≤ 2) (w : ¬ tkW h k p2 p3 p4 = 0) : EC X 116 [.ref 5, .int p0, .int (nI k), .int p2, .int p3, .int p4] h (fun v1 h1 => EC X 195 [.ref 86, .int p0, .int (nI k), .int p2, .int p3, .int p4] h1 (fun v2 h2 => v1 = v2 ∧ InvHL h2 ∧ Wr [0, 1, 2] h h2 ∧ h2.1 ≤ h.1 + 1)) := by
  have hp := p03 hk
  have nz := tkW_nz h k p2 p3 p4
  rw [g116]
  show EC X 162 _ _ _
  rw [e162, rI_i, b2i_t hd]
  dsimp only
  show EC X 84 _ h _
  rw [e84_C X h _ k L hk hL e13 p2 1 p3 p4 hq n1_0, if_neg w, rI_i]
  dsimp only
  rw [if_neg nz]
  have i2 : InvH2 (sI (sI h 6 4 (tkW h k p2 p3 p4)) 86 0 0) := InvH2_w iv.1.2 (fun b j hb => by rw [hg_ne _ (by omega), hg_ne _ (by omega)])
  have w2 : tkW (sI (sI h 6 4 (tkW h k p2 p3 p4)) 86 0 0) k p2 p3 p4 = tkW h k p2 p3 p4 := tkW_r (by rw [hg_ne _ (by decide), hg_ne _ (by decide)]) (by rw [hg_ne _ (by decide), hg_ne _ (by decide)]) _ _ _
  rw [g195]
  show EC X 170 _ _ _
  rw [e170, rI_i, b2i_t hp]
  dsimp only
  rw [if_pos n1_0]
  show EC X 171 _ _ _
  rw [e171, rI_i, b2i_t hq]
  dsimp only
  rw [if_neg n1_0]
  show EC X 169 _ _ _
  rw [e169, rI_i, b2i_t hd]
  dsimp only
  rw [if_pos n1_0]
  show EC X 172 _ _ _
  rw [e172 X _ _ i2 k hk p2 _ _ hq, w2, if_neg w, rI_i]
  dsimp only
  rw [if_neg nz, sI_sI]
  exact ⟨rfl, InvHL_f iv _, Wr_f (Wr_refl _ _) _ (by decide), Nat.le_succ _⟩
theorem more_M (X : XS) (h g : H2) (R : Option Value → H2 → Prop) (iv : InvH2 h) (k a n : Nat) (hk : k < 4) (han : a + n ≤ 60) (p0 p2 : Int32) (hd : 0 ≤ p0 ∧ p0 ≤ 99) (hq : 0 ≤ p2 ∧ p2 ≤ 2) (w : tkW h k p2 (nI a) (nI n) = 0) (hgR : ∀ b j, b = 12 ∨ b = 13 ∨ b = 87 ∨ b = 88 ∨ b = 89 ∨ (8 ≤ b ∧ b < 12) → hg g b j = hg h b j) :
    EC X 195 [.ref 86, .int p0, .int (nI k), .int p2, .int (nI a), .int (nI n)] g R ↔ EC X 178 [.ref 86, .int (nI (60 * k + a)), .int (nI n)] (sI g 86 0 0) (fun v h9 => rI v False (fun x10 => if x10 = (-9 : Int32) then E X 195 85 [some (.ref 86), some (.int p0), some (.int (nI k)), some (.int p2), some (.int (nI a)), some (.int (nI n)), some (.int 0), some (.int x10), some (.int (0 : Int32)), some (.int (0 : Int32))] [] h9 R else R (some (.int ((-100 : Int32) - x10))) h9)) := by
  have hp := p03 hk
  have e60 : (60 : Int32) = nI 60 := by decide
  have i2 : InvH2 (sI g 86 0 0) := InvH2_w iv (fun b j hb => by rw [hg_ne _ (by omega), hgR b j hb])
  have w2 : tkW (sI g 86 0 0) k p2 (nI a) (nI n) = 0 := by
    rw [tkW_r (h := h) (by rw [hg_ne _ (by decide), hgR _ _ (by omega)]) (by rw [hg_ne _ (by decide), hgR _ _ (by omega)]), w]
  rw [g195]
  show EC X 170 _ _ _ ↔ _
  rw [e170, rI_i, b2i_t hp]
  dsimp only
  rw [if_pos n1_0]
  show EC X 171 _ _ _ ↔ _
  rw [e171, rI_i, b2i_t hq]
  dsimp only
  rw [if_neg n1_0]
  show EC X 169 _ _ _ ↔ _
  rw [e169, rI_i, b2i_t hd]
  dsimp only
  rw [if_pos n1_0]
  show EC X 172 _ _ _ ↔ _
  rw [e172 X _ _ i2 k hk p2 _ _ hq, w2, if_pos rfl, rI_i]
  dsimp only
  rw [if_pos rfl, e60, pk_mul, nI_add]
theorem more_0 (X : XS) (h : H2) (iv : InvHL h) (ivW : InvW h) (k a n L : Nat) (hk : k < 4) (hL : L ≤ 60) (e13 : hg h 13 k = nI L) (han : a + n ≤ L) (p0 p2 : Int32) (hd : 0 ≤ p0 ∧ p0 ≤ 99) (hq : 0 ≤ p2 ∧ p2 ≤ 2) (w : tkW h k p2 (nI a) (nI n) = 0) : EC X 116 [.ref 5, .int p0, .int (nI k), .int p2, .int (nI a), .int (nI n)] h (fun v1 h1 => EC X 195 [.ref 86, .int p0, .int (nI k), .int p2, .int (nI a), .int (nI n)] h1 (fun v2 h2 => v1 = v2 ∧ InvHL h2 ∧ Wr [0, 1, 2] h h2 ∧ h2.1 ≤ h.1 + 1)) := by
  have iv' := iv
  obtain ⟨ivH, c, ad, ok⟩ := iv
  obtain ⟨cs, ws⟩ := ivW
  have hcs := ws.1
  have hcl := ok.1
  have sz := ok.2.2.2.2.2.1
  have ka : (nI a).toNatClampNeg = a := nI_clamp (by omega)
  have kn : (nI n).toNatClampNeg = n := nI_clamp (by omega)
  have rD : ∀ q r' b j, b ≠ h.1 → b ≠ 15 → b ≠ 6 → b ≠ 14 → b ≠ 16 → hg (dH (rdG h k a n) h.1 q r') b j = hg h b j := by
    intro q r' b j z1 z2 z3 z4 z5
    rw [dH_o _ _ _ _ _ _ z1 (by omega), rdG_o _ _ _ _ _ _ z3 z4 z2 z5]
  rw [g116]
  show EC X 162 _ _ _
  rw [e162, rI_i, b2i_t hd]
  dsimp only
  show EC X 84 _ h _
  rw [e84_C X h _ k L hk hL e13 p2 1 (nI a) (nI n) hq n1_0, if_pos w, rI_i]
  dsimp only
  rw [if_pos rfl, ka, kn]
  show EC X 67 _ _ _
  apply read_D X h _ iv' k a n hk (by omega)
  · intro q V hV r' hr'
    rw [rO_r]
    show EC X 102 _ _ _
    have okD := LsOk_D ok k a n q r'
    have wsD : WsOk (dH (rdG h k a n) h.1 q r') cs := WsOk_r ws (fun b j hb => rD _ _ _ _ (by omega) (by omega) (by omega) (by omega) (by omega))
    rw [e102 X _ _ c cs ad okD wsD h.1 sz (by rw [dH_1, rdG_1]; omega) r' (fun i _ => dH_a _ _ _ _ _), rI_i]
    dsimp only
    rw [more_M X h _ _ ivH.2 k a n hk (by omega) p0 p2 hd hq w (fun b j hb => rD _ _ _ _ (by omega) (by omega) (by omega) (by omega) (by omega))]
    refine e178 X _ _ n (60 * k + a) (by omega) (by omega) (fun j => hg h 89 (60 * k + a + j)) ?_ _ rfl ?_ ?_
    · intro j hj
      rw [hg_ne _ (by decide), rD _ _ _ _ (by omega) (by decide) (by decide) (by decide) (by decide)]
    · intro q2 V2 hV2 V' hV'
      rw [hV] at hV2
      obtain ⟨-, eV⟩ := Prod.mk.inj hV2
      obtain rfl := Option.some.inj eV
      rw [rI_i, if_pos rfl]
      have okM := LsOk_M okD (60 * k + a) q2 0 (nI (60 * k + a + n)) V'
      have rM : ∀ b j, b ≠ 86 → ¬ ((90 ≤ b ∧ b < 97) ∧ j = 24) → hg (mH (sI (sI (dH (rdG h k a n) h.1 q r') 86 0 0) 86 14 (nI (60 * k + a + n))) (60 * k + a) q2 0 V') b j = hg (dH (rdG h k a n) h.1 q r') b j := by
        intro b j z1 z2
        rw [mH_o _ _ _ _ _ _ _ (by omega) (by omega) z2, hg_ne _ z1, hg_ne _ z1]
      have wsM : WsOk (mH (sI (sI (dH (rdG h k a n) h.1 q r') 86 0 0) 86 14 (nI (60 * k + a + n))) (60 * k + a) q2 0 V') cs := by
        refine WsOk_r wsD (fun b j hb => ?_)
        by_cases e : b = 86
        · subst e
          rw [mH_o _ _ _ _ _ _ _ (by omega) (by omega) (by omega), hg_nj _ (by omega), hg_nj _ (by omega)]
        · exact rM b j e (by omega)
      have vv : ∀ i, i < 7 → hg (mH (sI (sI (dH (rdG h k a n) h.1 q r') 86 0 0) 86 14 (nI (60 * k + a + n))) (60 * k + a) q2 0 V') (90 + i) 24 = V i := by
        intro i hi
        rw [mH_v _ _ _ _ _ _ hi, hV' i hi]
      rw [e195 X _ _ c cs ad okM wsM (by rw [show hg (mH (sI (sI (dH (rdG h k a n) h.1 q r') 86 0 0) 86 14 (nI (60 * k + a + n))) (60 * k + a) q2 0 V') 95 24 = V 5 from vv 5 (by omega)]; exact prs_b4 hV)]
      refine ⟨?_, hL_out ivH ok k a n q _ _ r' 0 V' _⟩
      congr 3
      apply cnt_congr
      intro s hs
      unfold moB
      rw [opB_r (h := dH (rdG h k a n) h.1 q r') (fun b j z1 z2 z3 => rM b j (by omega) (by omega)) (fun b z1 z2 => rM b s (by omega) (by omega))]
      rw [rM 22 s (by decide) (by omega), rM 23 s (by decide) (by omega), rM 24 s (by decide) (by omega), rM 25 s (by decide) (by omega)]
      rw [stV_congr (r := r') (r' := V) hr', stV_congr (r := fun i => hg (mH (sI (sI (dH (rdG h k a n) h.1 q r') 86 0 0) 86 14 (nI (60 * k + a + n))) (60 * k + a) q2 0 V') (90 + i) 24) (r' := V) vv]
    · intro q2 hV2 w2 V'
      rw [hV] at hV2
      cases hV2
  · intro q hV r'
    rw [rO_n]
    dsimp only
    rw [dH_p _ _ _ sz]
    rw [more_M X h _ _ ivH.2 k a n hk (by omega) p0 p2 hd hq w (fun b j hb => rD _ _ _ _ (by omega) (by omega) (by omega) (by omega) (by omega))]
    refine e178 X _ _ n (60 * k + a) (by omega) (by omega) (fun j => hg h 89 (60 * k + a + j)) ?_ _ rfl ?_ ?_
    · intro j hj
      rw [hg_ne _ (by decide), rD _ _ _ _ (by omega) (by decide) (by decide) (by decide) (by decide)]
    · intro q2 V2 hV2 V' hV'
      rw [hV] at hV2
      cases hV2
    · intro q2 hV2 w2 V'
      rw [hV] at hV2
      cases hV2
      rw [rI_i, if_neg]
      · exact ⟨rfl, hL_out ivH ok k a n q _ _ r' w2 V' _⟩
      · have l := prs_le (f := fun j => hg h 89 (60 * k + a + j)) (n := n)
        rw [hV] at l
        exact nI_m9 (by have : q ≤ n := l; omega)
theorem c_more (X : XS) (h : H2) (iv : InvHL h) (ivW : InvW h) (p0 p1 p2 p3 p4 : Int32) : EC X 116 [.ref 5, .int p0, .int p1, .int p2, .int p3, .int p4] h (fun v1 h1 => EC X 195 [.ref 86, .int p0, .int p1, .int p2, .int p3, .int p4] h1 (fun v2 h2 => v1 = v2 ∧ InvHL h2 ∧ Wr [0, 1, 2] h h2 ∧ h2.1 ≤ h.1 + 1)) := by
  by_cases hp : 0 ≤ p1 ∧ p1 ≤ 3
  · by_cases hq : (0 ≤ p2 ∧ p2 ≤ 2) ∧ (0 ≤ p0 ∧ p0 ≤ 99)
    · obtain ⟨k, hk, rfl⟩ := sh4 hp
      obtain ⟨-, ⟨L, hL, e13, -⟩, hr⟩ := iv.1.2 k hk
      by_cases w : tkW h k p2 p3 p4 = 0
      · obtain ⟨-, -, a, n, rfl, rfl, han⟩ := tkW_0 hL e13 w
        exact more_0 X h iv ivW k a n L hk hL e13 han p0 p2 hq.2 hq.1 w
      · exact more_F X h iv k L hk hL e13 p0 p2 p3 p4 hq.2 hq.1 w
    · exact more_B X h iv p0 p1 p2 p3 p4 hp hq
  · exact more_A X h iv p0 p1 p2 p3 p4 hp
