/-! cut -/
def DOk (g : H2) (dr hl : Nat → Int32) (pp cc : Nat) : Prop := cc ≤ 12 ∧ pp ≤ 12 ∧ hg g 62 9 = nI cc ∧ hg g 62 10 = nI pp ∧ hg g 62 8 = khm dr hl pp ∧ (∀ p, p < pp → hg g 69 p = dr p) ∧ (∀ p, p < pp → hg g 70 p = hl p)
theorem pw12 {A : Nat} (hA : A ≤ 12) : 2 ^ A ≤ 4096 := Nat.pow_le_pow_right (n := 2) (by omega) hA
theorem e14 (X : XS) (g : H2) (Q : Option Value → H2 → Prop) (dr hl : Nat → Int32) (pp cc : Nat) (ok : DOk g dr hl pp cc) : EC X 14 [.ref 62] g Q ↔ Q (some (.int (nI (cnt (fun s => cutB dr hl pp (nI s)) (2 ^ cc))))) g := by
  obtain ⟨hc, hp, e9, e10, e8, r9, r0⟩ := ok
  have hp2 := pw12 hc
  have key : ∀ i k, k + i = 2 ^ cc → (E X 14 4 [some (.ref 62), some (.int (nI (cnt (fun s => cutB dr hl pp (nI s)) k))), some (.int (nI k))] [] g Q ↔ Q (some (.int (nI (cnt (fun s => cutB dr hl pp (nI s)) (2 ^ cc))))) g) := by
    intro i
    induction i with
    | zero =>
      intro k hk
      have : k = 2 ^ cc := by omega
      rw [g14_4, e9, p2 (by omega), ← this, if_pos (nI_le (Nat.le_refl _) (by omega))]
    | succ i ih =>
      intro k hk
      have i1 := ih (k + 1) (by omega)
      have ee : cnt (fun s => cutB dr hl pp (nI s)) (k + 1) = cnt (fun s => cutB dr hl pp (nI s)) k + (if cutB dr hl pp (nI k) = true then 1 else 0) := rfl
      rw [g14_4, e9, p2 (by omega), if_neg (nI_ge (by omega) (by omega)), nI_1, nI_1]
      show EC X 13 _ _ _ ↔ _
      rw [e13 X g _ dr hl pp hp e8 e10 r9 r0, rI_i]
      dsimp only
      by_cases q : cutB dr hl pp (nI k) = true
      · rw [ee, if_pos q] at i1
        rw [if_neg (fun z => (bz_0 _).mp z q)]
        exact i1
      · rw [ee, if_neg q] at i1
        rw [if_pos ((bz_0 _).mpr q)]
        exact i1
  rw [g14]
  exact key (2 ^ cc) 0 (by omega)
theorem cnt24 {s : Nat} (hs : s < 4096) : cnt (bt (nI s)) 24 = cnt (bt (nI s)) 12 := by
  rw [show 24 = 12 + 12 from rfl, cnt_split]
  have : cnt (fun i => bt (nI s) (12 + i)) 12 = 0 := by
    rw [cnt_0]
    refine anyB_false.mpr (fun j hj => ?_)
    show bt (nI s) (12 + j) = false
    rw [bt_nI (by omega)]
    exact Nat.testBit_lt_two_pow (Nat.lt_of_lt_of_le hs (show 2 ^ 12 ≤ 2 ^ (12 + j) from Nat.pow_le_pow_right (by omega) (by omega)))
  rw [this, Nat.add_zero]
theorem e266s (X : XS) (g : H2) (Q : Option Value → H2 → Prop) (s : Nat) (hs : s < 4096) : EC X 266 [.int (nI s)] g Q ↔ Q (some (.int (szS s))) g := by
  rw [e266 X g Q (nI s) (fun i hi hi2 => by
    rw [bt_nI hi2]
    exact Nat.testBit_lt_two_pow (Nat.lt_of_lt_of_le hs (show 2 ^ 12 ≤ 2 ^ i from Nat.pow_le_pow_right (by omega) (by omega)))), cnt24 hs]
  exact Iff.rfl
theorem fewF_s {ct : Nat → Bool} {s : Nat} : fewF ct (s + 1) = if ct s = true ∧ (fewF ct s = -9 ∨ szS s < fewF ct s) then szS s else fewF ct s := rfl
theorem e15 (X : XS) (g : H2) (Q : Option Value → H2 → Prop) (dr hl : Nat → Int32) (pp cc : Nat) (ok : DOk g dr hl pp cc) : EC X 15 [.ref 62] g Q ↔ Q (some (.int (fewF (fun s => cutB dr hl pp (nI s)) (2 ^ cc)))) g := by
  obtain ⟨hc, hp, e9, e10, e8, r9, r0⟩ := ok
  have hp2 := pw12 hc
  have key : ∀ i k u, k + i = 2 ^ cc → (E X 15 5 [some (.ref 62), some (.int (fewF (fun s => cutB dr hl pp (nI s)) k)), some (.int (nI k)), u] [] g Q ↔ Q (some (.int (fewF (fun s => cutB dr hl pp (nI s)) (2 ^ cc)))) g) := by
    intro i
    induction i with
    | zero =>
      intro k u hk
      have : k = 2 ^ cc := by omega
      rw [g15_5, e9, p2 (by omega), ← this, if_pos (nI_le (Nat.le_refl _) (by omega))]
    | succ i ih =>
      intro k u hk
      have i1 : ∀ u, E X 15 5 [some (.ref 62), some (.int (fewF (fun s => cutB dr hl pp (nI s)) (k + 1))), some (.int (nI (k + 1))), u] [] g Q ↔ Q (some (.int (fewF (fun s => cutB dr hl pp (nI s)) (2 ^ cc)))) g := fun u => ih (k + 1) u (by omega)
      rw [fewF_s] at i1
      rw [g15_5, e9, p2 (by omega), if_neg (nI_ge (by omega) (by omega)), nI_1]
      show EC X 266 _ _ _ ↔ _
      rw [e266s X g _ k (by omega), rI_i]
      dsimp only
      by_cases q : cutB dr hl pp (nI k) = true
      · by_cases q1 : fewF (fun s => cutB dr hl pp (nI s)) k = -9
        · rw [if_pos ⟨q, Or.inl q1⟩] at i1
          rw [if_pos q1]
          show EC X 13 _ _ _ ↔ _
          rw [e13 X g _ dr hl pp hp e8 e10 r9 r0, rI_i]
          dsimp only
          rw [if_neg (fun z => (bz_0 _).mp z q)]
          exact i1 _
        · rw [if_neg q1]
          by_cases q2 : fewF (fun s => cutB dr hl pp (nI s)) k ≤ szS k
          · rw [if_neg (fun z => z.2.elim q1 (fun w => absurd w (Int32.not_lt.mpr q2)))] at i1
            rw [if_pos q2]
            exact i1 _
          · rw [if_pos ⟨q, Or.inr (Int32.not_le.mp q2)⟩] at i1
            rw [if_neg q2]
            show EC X 13 _ _ _ ↔ _
            rw [e13 X g _ dr hl pp hp e8 e10 r9 r0, rI_i]
            dsimp only
            rw [if_neg (fun z => (bz_0 _).mp z q)]
            exact i1 _
      · rw [if_neg (fun z => q z.1)] at i1
        by_cases q1 : fewF (fun s => cutB dr hl pp (nI s)) k = -9
        · rw [if_pos q1]
          show EC X 13 _ _ _ ↔ _
          rw [e13 X g _ dr hl pp hp e8 e10 r9 r0, rI_i]
          dsimp only
          rw [if_pos ((bz_0 _).mpr q)]
          exact i1 _
        · rw [if_neg q1]
          by_cases q2 : fewF (fun s => cutB dr hl pp (nI s)) k ≤ szS k
          · rw [if_pos q2]
            exact i1 _
          · rw [if_neg q2]
            show EC X 13 _ _ _ ↔ _
            rw [e13 X g _ dr hl pp hp e8 e10 r9 r0, rI_i]
            dsimp only
            rw [if_pos ((bz_0 _).mpr q)]
            exact i1 _
  rw [g15]
  exact key (2 ^ cc) 0 _ (by omega)
theorem e16 (X : XS) (g : H2) (Q : Option Value → H2 → Prop) (dr hl : Nat → Int32) (pp cc : Nat) (ok : DOk g dr hl pp cc) : EC X 16 [.ref 62] g Q ↔ Q (some (.int (fsoF (fun s => cutB dr hl pp (nI s)) (2 ^ cc)))) g := by
  obtain ⟨hc, hp, e9, e10, e8, r9, r0⟩ := ok
  rw [g16, e9, e8]
  show EC X 13 [.ref 62, .int (susF (khm dr hl pp) cc)] _ _ ↔ _
  rw [e13 X g _ dr hl pp hp e8 e10 r9 r0, rI_i, ← some_eq dr hl pp cc hc]
  dsimp only
  by_cases q : cutB dr hl pp (susF (khm dr hl pp) cc) = true
  · rw [if_neg (fun z => (bz_0 _).mp z q), if_pos q]
    exact Iff.rfl
  · rw [if_pos ((bz_0 _).mpr q), if_neg q]
theorem e17 (X : XS) (g : H2) (Q : Option Value → H2 → Prop) (dr hl : Nat → Int32) (pp cc : Nat) (ok : DOk g dr hl pp cc) : EC X 17 [.ref 62] g Q ↔ Q (some (.int (falF (fun s => cutB dr hl pp (nI s)) (2 ^ cc)))) g := by
  have ok' := ok
  obtain ⟨hc, hp, e9, e10, e8, r9, r0⟩ := ok
  have key : ∀ (S : Int32) i c, c + i = cc → (E X 17 9 [some (.ref 62), some (.int S), some (.int (alD S (cutB dr hl pp) c)), some (.int (nI c))] [] g Q ↔ Q (some (.int (alD S (cutB dr hl pp) cc))) g) := by
    intro S i
    induction i with
    | zero =>
      intro c hcc
      have : c = cc := by omega
      subst this
      rw [g17_9, e9, if_pos (nI_le (Nat.le_refl _) (by omega))]
    | succ i ih =>
      intro c hcc
      have i1 := ih (c + 1) (by omega)
      have ea : alD S (cutB dr hl pp) (c + 1) = if bt S c = true ∧ ¬ cutB dr hl pp (S &&& (bit c ^^^ (-1))) = true then alD S (cutB dr hl pp) c ||| bit c else alD S (cutB dr hl pp) c := rfl
      rw [ea] at i1
      rw [g17_9, e9, if_neg (nI_ge (by omega) (by omega)), nI_1]
      by_cases q : bt S c = true
      · rw [if_neg (fun z => (bit0 S (by omega)).mp z q)]
        show EC X 13 [.ref 62, .int (S &&& (bit c ^^^ (-1)))] _ _ ↔ _
        rw [e13 X g _ dr hl pp hp e8 e10 r9 r0, rI_i]
        dsimp only
        by_cases q2 : cutB dr hl pp (S &&& (bit c ^^^ (-1))) = true
        · rw [if_neg (fun z => z.2 q2)] at i1
          rw [if_pos (fun z => (bz_0 _).mp z q2)]
          exact i1
        · rw [if_pos ⟨q, q2⟩] at i1
          rw [if_neg (fun z => z ((bz_0 _).mpr q2))]
          exact i1
      · rw [if_neg (fun z => q z.1)] at i1
        rw [if_pos ((bit0 S (by omega)).mpr q)]
        exact i1
  rw [g17]
  show EC X 16 _ _ _ ↔ _
  rw [e16 X g _ dr hl pp cc ok', rI_i]
  dsimp only
  rw [← all_eq dr hl pp cc hc]
  exact key _ cc 0 (by omega)
def pwF (hl : Nat → Int32) (x : Int32) : Nat → Int32
  | 0 => 0
  | p + 1 => if hl p = x then pwF hl x p ||| bit p else pwF hl x p
theorem pw_bt (hl : Nat → Int32) (x : Int32) (i : Nat) : ∀ n, n ≤ 12 → bt (pwF hl x n) i = (decide (i < n) && decide (hl i = x)) := by
  intro n
  induction n with
  | zero => intro _; rw [decide_eq_false (show ¬ i < 0 by omega), Bool.false_and]; exact b_0 i
  | succ n ih =>
    intro hn
    show bt (if hl n = x then pwF hl x n ||| bit n else pwF hl x n) i = _
    by_cases c : hl n = x
    · rw [if_pos c, b_or, bt_bit (by omega), ih (by omega)]
      by_cases e : i = n
      · subst e
        rw [decide_eq_true (show i = i from rfl), Bool.or_true, decide_eq_true (show i < i + 1 by omega), decide_eq_true c]
        rfl
      · rw [decide_eq_false e, Bool.or_false]
        have : decide (i < n) = decide (i < n + 1) := by
          by_cases l : i < n
          · rw [decide_eq_true l, decide_eq_true (by omega)]
          · rw [decide_eq_false l, decide_eq_false (by omega)]
        rw [this]
    · rw [if_neg c, ih (by omega)]
      by_cases e : i = n
      · subst e
        rw [decide_eq_false c, Bool.and_false, Bool.and_false]
      · have : decide (i < n) = decide (i < n + 1) := by
          by_cases l : i < n
          · rw [decide_eq_true l, decide_eq_true (by omega)]
          · rw [decide_eq_false l, decide_eq_false (by omega)]
        rw [this]
theorem e18 (X : XS) (g : H2) (Q : Option Value → H2 → Prop) (dr hl : Nat → Int32) (pp cc : Nat) (ok : DOk g dr hl pp cc) (x : Int32) : EC X 18 [.ref 62, .int x] g Q ↔ Q (some (.int (pwF hl x pp))) g := by
  obtain ⟨hc, hp, e9, e10, e8, r9, r0⟩ := ok
  have key : ∀ i p, p + i = pp → (E X 18 4 [some (.ref 62), some (.int x), some (.int (pwF hl x p)), some (.int (nI p))] [] g Q ↔ Q (some (.int (pwF hl x pp))) g) := by
    intro i
    induction i with
    | zero =>
      intro p hpp
      have : p = pp := by omega
      subst this
      rw [g18_4, e10, if_pos (nI_le (Nat.le_refl _) (by omega))]
    | succ i ih =>
      intro p hpp
      have i1 := ih (p + 1) (by omega)
      have kp : (nI p).toNatClampNeg = p := nI_clamp (by omega)
      have ea : pwF hl x (p + 1) = if hl p = x then pwF hl x p ||| bit p else pwF hl x p := rfl
      rw [ea] at i1
      rw [g18_4, e10, if_neg (nI_ge (by omega) (by omega)), kp, if_neg (bI p 12 (by omega) (by omega)), r0 p (by omega), nI_1]
      by_cases q : hl p = x
      · rw [if_pos q] at i1
        rw [if_neg (fun z => z q)]
        exact i1
      · rw [if_neg q] at i1
        rw [if_pos q]
        exact i1
  rw [g18]
  exact key pp 0 (by omega)
theorem e223 (X : XS) (g : H2) (Q : Option Value → H2 → Prop) (s : Nat) : EC X 223 [.int (nI s)] g Q ↔ Q (some (.int (szS s))) g := by
  have e12 : (12 : Int32) = nI 12 := by decide
  have key : ∀ m k, k + m = 12 → (E X 223 4 [some (.int (nI s)), some (.int (nI (cnt (bt (nI s)) k))), some (.int (nI k))] [] g Q ↔ Q (some (.int (szS s))) g) := by
    intro m
    induction m with
    | zero =>
      intro k hk
      have : k = 12 := by omega
      subst this
      rw [g223_4, e12, if_pos (nI_le (Nat.le_refl _) (by omega))]
      exact Iff.rfl
    | succ m ih =>
      intro k hk
      rw [← ih (k + 1) (by omega), g223_4, e12, if_neg (nI_ge (by omega) (by omega)), bt_shr _ (show k < 32 by omega), nI_1]
      have ee : cnt (bt (nI s)) (k + 1) = cnt (bt (nI s)) k + (if bt (nI s) k = true then 1 else 0) := rfl
      rw [ee]
      by_cases hb : bt (nI s) k = true
      · rw [if_pos hb, if_pos hb, nI_1]
      · rw [if_neg hb, if_neg hb, Int32.add_zero]
        rfl
  rw [g223]
  exact key 12 0 (by omega)
def MOk (g : H2) (dr hl : Nat → Int32) (pp cc : Nat) : Prop := cc ≤ 12 ∧ pp ≤ 12 ∧ hg g 86 40 = nI cc ∧ hg g 86 43 = nI pp ∧ (∀ p, p < pp → hg g 122 p = dr p) ∧ (∀ p, p < pp → bt (hg g 86 50) p = decide (hl p = 1)) ∧ (∀ p, p < pp → bt (hg g 86 51) p = decide (hl p = 2))
/-- the reference's four answers -/
def mC (g : H2) (a b c d : Int32) : H2 := (g.1, fun x j => if x = 86 ∧ j = 52 then a else if x = 86 ∧ j = 53 then b else if x = 86 ∧ j = 54 then c else if x = 86 ∧ j = 55 then d else g.2.1 x j, g.2.2)
theorem hg_mC (g : H2) (a b c d : Int32) (x j : Nat) : hg (mC g a b c d) x j = if x = 86 ∧ j = 52 then a else if x = 86 ∧ j = 53 then b else if x = 86 ∧ j = 54 then c else if x = 86 ∧ j = 55 then d else hg g x j := rfl
theorem mC_o (g : H2) (a b c d : Int32) (x j : Nat) (h : ¬ (x = 86 ∧ 52 ≤ j ∧ j < 56)) : hg (mC g a b c d) x j = hg g x j := by
  rw [hg_mC, if_neg (by omega), if_neg (by omega), if_neg (by omega), if_neg (by omega)]
theorem mC_a (g : H2) (a b c d : Int32) : hg (mC g a b c d) 86 52 = a := rfl
theorem mC_b (g : H2) (a b c d : Int32) : hg (mC g a b c d) 86 53 = b := rfl
theorem mC_c (g : H2) (a b c d : Int32) : hg (mC g a b c d) 86 54 = c := rfl
theorem mC_d (g : H2) (a b c d : Int32) : hg (mC g a b c d) 86 55 = d := rfl
theorem mC_s1 (g : H2) (a b c d c' d' : Int32) : sI (sI (mC g a b c d) 86 54 c') 86 55 d' = mC g a b c' d' := by
  refine H2_ext ?_ ?_ ?_ <;> try rfl
  intro x j
  rw [hg_sI, hg_sI, hg_mC, hg_mC]
  by_cases e1 : x = 86 ∧ j = 55
  · rw [if_pos e1, if_neg (by omega), if_neg (by omega), if_neg (by omega), if_pos e1]
  · rw [if_neg e1, if_neg e1]
    by_cases e2 : x = 86 ∧ j = 54
    · rw [if_pos e2, if_neg (by omega), if_neg (by omega), if_pos e2]
    · rw [if_neg e2, if_neg e2, if_neg e1, if_neg e2]
theorem mC_s2 (g : H2) (a b c d a' b' : Int32) : sI (sI (mC g a b c d) 86 53 b') 86 52 a' = mC g a' b' c d := by
  refine H2_ext ?_ ?_ ?_ <;> try rfl
  intro x j
  rw [hg_sI, hg_sI, hg_mC, hg_mC]
  by_cases e1 : x = 86 ∧ j = 52
  · rw [if_pos e1, if_pos e1]
  · rw [if_neg e1, if_neg e1]
    by_cases e2 : x = 86 ∧ j = 53
    · rw [if_pos e2, if_neg e1, if_pos e2]
    · rw [if_neg e2, if_neg e2, if_neg e1, if_neg e2]
theorem mC_0 (g : H2) (a b c d : Int32) : sI (sI (sI (sI g 86 52 a) 86 53 b) 86 54 c) 86 55 d = mC g a b c d := by
  refine H2_ext ?_ ?_ ?_ <;> try rfl
  intro x j
  rw [hg_sI, hg_sI, hg_sI, hg_sI, hg_mC]
  by_cases e1 : x = 86 ∧ j = 55
  · rw [if_pos e1, if_neg (by omega), if_neg (by omega), if_neg (by omega), if_pos e1]
  · rw [if_neg e1]
    by_cases e2 : x = 86 ∧ j = 54
    · rw [if_pos e2, if_neg (by omega), if_neg (by omega), if_pos e2]
    · rw [if_neg e2]
      by_cases e3 : x = 86 ∧ j = 53
      · rw [if_pos e3, if_neg (by omega), if_pos e3]
      · rw [if_neg e3, if_neg e3, if_neg e2, if_neg e1]
theorem e225l (X : XS) (g : H2) (Q : Option Value → H2 → Prop) (dr hl : Nat → Int32) (pp cc : Nat) (ok : MOk g dr hl pp cc) (u : Int32) (ct : Nat → Bool) (ect : ct = fun s => cutB dr hl pp (nI s)) :
    E X 225 28 [some (.ref 86), some (.int u), some (.int 0)] [] (mC g 0 (-9) 0 0) Q ↔ Q none (mC g (nI (cnt ct (2 ^ cc))) (fewF ct (2 ^ cc)) (falF ct (2 ^ cc)) (fsoF ct (2 ^ cc))) := by
  obtain ⟨hc, hp, e9, e10, r9, ri, rw'⟩ := ok
  have hp2 := pw12 hc
  have ec : ∀ s, ct s = cutB dr hl pp (nI s) := fun s => by rw [ect]
  have key : ∀ i k, k + i = 2 ^ cc → (E X 225 28 [some (.ref 86), some (.int u), some (.int (nI k))] [] (mC g (nI (cnt ct k)) (fewF ct k) (falF ct k) (fsoF ct k)) Q ↔ Q none (mC g (nI (cnt ct (2 ^ cc))) (fewF ct (2 ^ cc)) (falF ct (2 ^ cc)) (fsoF ct (2 ^ cc)))) := by
    intro i
    induction i with
    | zero =>
      intro k hk
      have : k = 2 ^ cc := by omega
      rw [g225_28, mC_o _ _ _ _ _ _ _ (by omega), e9, p2 (by omega), ← this, if_pos (nI_le (Nat.le_refl _) (by omega))]
    | succ i ih =>
      intro k hk
      have i1 := ih (k + 1) (by omega)
      have e1 : cnt ct (k + 1) = cnt ct k + (if ct k = true then 1 else 0) := rfl
      have e2 : falF ct (k + 1) = if ct k = true then (if cnt ct k = 0 then nI k else falF ct k &&& nI k) else falF ct k := rfl
      have e3 : fsoF ct (k + 1) = if ct k = true then fsoF ct k ||| nI k else fsoF ct k := rfl
      have e4 := fewF_s (ct := ct) (s := k)
      have cl := cnt_le ct k
      rw [g225_28, mC_o _ _ _ _ _ _ _ (by omega), e9, p2 (by omega), if_neg (nI_ge (by omega) (by omega)), nI_1]
      show EC X 224 _ _ _ ↔ _
      rw [e224 X _ _ dr hl pp hp (by rw [mC_o _ _ _ _ _ _ _ (by omega), e10]) (fun p hpp => by rw [mC_o _ _ _ _ _ _ _ (by omega), r9 p hpp]) (fun p hpp => by rw [mC_o _ _ _ _ _ _ _ (by omega), ri p hpp]) (fun p hpp => by rw [mC_o _ _ _ _ _ _ _ (by omega), rw' p hpp]), rI_i, ← ec]
      dsimp only
      by_cases q : ct k = true
      · rw [if_pos (fun z => (bz_0 _).mp z q), mC_a, mC_c]
        have h67 : ∀ s0, s0 = falF ct (k + 1) → (E X 225 67 [some (.ref 86), some (.int u), some (.int (nI k))] [.int s0, .ref 86] (mC g (nI (cnt ct k)) (fewF ct k) (falF ct k) (fsoF ct k)) Q ↔ Q none (mC g (nI (cnt ct (2 ^ cc))) (fewF ct (2 ^ cc)) (falF ct (2 ^ cc)) (fsoF ct (2 ^ cc)))) := by
          intro s0 es
          rw [g225_67, mC_b, mC_d, mC_s1, nI_1]
          rw [e1, if_pos q, e3, if_pos q, ← es] at i1
          by_cases q1 : fewF ct k = -9
          · rw [e4, if_pos ⟨q, Or.inl q1⟩] at i1
            rw [if_pos q1]
            show EC X 223 _ _ _ ↔ _
            rw [e223, rI_i]
            dsimp only
            rw [mC_a, mC_s2, nI_1]
            exact i1
          · rw [if_neg q1]
            show EC X 223 _ _ _ ↔ _
            rw [e223, rI_i]
            dsimp only
            rw [mC_b, mC_a, mC_s2, nI_1]
            by_cases q2 : fewF ct k ≤ szS k
            · rw [e4, if_neg (fun z => z.2.elim q1 (fun w => absurd w (Int32.not_lt.mpr q2)))] at i1
              rw [if_pos q2]
              exact i1
            · rw [e4, if_pos ⟨q, Or.inr (Int32.not_le.mp q2)⟩] at i1
              rw [if_neg q2]
              show EC X 223 _ _ _ ↔ _
              rw [e223, rI_i]
              dsimp only
              rw [mC_a, mC_s2, nI_1]
              exact i1
        by_cases c0 : cnt ct k = 0
        · rw [if_neg (fun z => z (by rw [c0]; rfl))]
          exact h67 _ (by rw [e2, if_pos q, if_pos c0])
        · rw [if_pos (nI_ne0 (by omega) (by omega))]
          exact h67 _ (by rw [e2, if_pos q, if_neg c0])
      · rw [if_neg (fun z => z ((bz_0 _).mpr q))]
        rw [e1, if_neg q, e2, if_neg q, e3, if_neg q, e4, if_neg (fun z => q z.1)] at i1
        exact i1
  exact key (2 ^ cc) 0 (by omega)
