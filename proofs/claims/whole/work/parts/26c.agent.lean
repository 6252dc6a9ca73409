/-! agents and trucks come -/
theorem e50 (X : XS) (h : H2) (Q : Option Value → H2 → Prop) (a t m n s : Nat) (ha : a < 8) (ht : t < 12) (m1 : 1 ≤ m) (m2 : m ≤ 12) (em : hg h 44 a = nI m) (n2 : n ≤ 12) (en : hg h 58 t = nI n) (hs : s ≤ 11) (es : hg h 59 t = nI s) :
    EC X 50 [.ref 34, .int (nI a), .int (nI t)] h Q ↔ if mt h a t = true then Q none (sI h 61 t (hg h 61 t ||| bit a)) else Q none h := by
  have hk : (nI t).toNatClampNeg = t := nI_clamp (by omega)
  rw [g50]
  simp only [cI, e51m X h _ a t m n s ha ht m1 m2 em n2 en hs es, rI_i, hk, bI t 12 ht (by omega), if_false, bz_0]
  by_cases c : mt h a t = true
  · rw [if_neg (fun z => z c), if_pos c]
    rfl
  · rw [if_pos c, if_neg c]
def arP (f : Nat → Int32) (n : Nat) : Bool := decide (1 ≤ n ∧ n ≤ 12) && !anyB (fun j => !decide (0 ≤ f j ∧ f j ≤ 9)) n
theorem w12 {n : Nat} (hn : n < 2 ^ 31) : (1 ≤ nI n ∧ nI n ≤ 12) ↔ (1 ≤ n ∧ n ≤ 12) := by
  have e1 : (1 : Int32) = nI 1 := by decide
  have e12 : (12 : Int32) = nI 12 := by decide
  rw [e1, e12, nI_leI (by omega) hn, nI_leI hn (by omega)]
theorem e44 (X : XS) (h : H2) (Q : Option Value → H2 → Prop) (n : Nat) (hn : n ≤ 60) : EC X 44 [.ref 14, .int (nI n)] h Q ↔ Q (some (.int (bz (arP (hg h 14) n)))) h := by
  have e60 : Int32.ofNat 60 = nI 60 := rfl
  rw [g44]
  simp only [cI, e161, rI_i, b2i_0, w12 (show n < 2 ^ 31 by omega), e60, nI_leI (show n < 2 ^ 31 by omega) (show 60 < 2 ^ 31 by omega), hn, if_true]
  unfold arP
  by_cases c : 1 ≤ n ∧ n ≤ 12
  · rw [if_neg (fun z => z c), decide_eq_true c, Bool.true_and]
    have key : ∀ i k, k + i = n → anyB (fun j => !decide (0 ≤ hg h 14 j ∧ hg h 14 j ≤ 9)) k = false → (E X 44 20 [some (.ref 14), some (.int (nI n)), some (.int (nI k))] [] h Q ↔ Q (some (.int (bz (!anyB (fun j => !decide (0 ≤ hg h 14 j ∧ hg h 14 j ≤ 9)) n)))) h) := by
      intro i
      induction i with
      | zero =>
        intro k hk hf
        have : k = n := by omega
        subst this
        rw [g44_20, if_pos (nI_le (Nat.le_refl _) (by omega)), hf]
        exact Iff.rfl
      | succ i ih =>
        intro k hk hf
        have hkk : (nI k).toNatClampNeg = k := nI_clamp (by omega)
        rw [g44_20, if_neg (nI_ge (by omega) (by omega))]
        simp only [hkk, bI k 60 (show k < 60 by omega) (by omega), if_false, cI, e161, rI_i, b2i_0, nI_1]
        by_cases c2 : 0 ≤ hg h 14 k ∧ hg h 14 k ≤ 9
        · rw [if_pos (fun z => z c2)]
          refine ih (k + 1) (by omega) ?_
          show (anyB _ k || !decide _) = false
          rw [hf, decide_eq_true c2]
          rfl
        · rw [if_neg (fun z => z c2)]
          have : anyB (fun j => !decide (0 ≤ hg h 14 j ∧ hg h 14 j ≤ 9)) n = true := anyB_iff.mpr ⟨k, by omega, by show (!decide _) = true; rw [decide_eq_false c2]; rfl⟩
          rw [this]
          exact Iff.rfl
    exact key n 0 (by omega) rfl
  · rw [if_pos c, decide_eq_false c, Bool.false_and]
    exact Iff.rfl
theorem e202 (X : XS) (h : H2) (Q : Option Value → H2 → Prop) (s n : Nat) (hn : s + n ≤ 240) : EC X 202 [.ref 86, .int (nI s), .int (nI n)] h Q ↔ Q (some (.int (bz (arP (fun j => hg h 89 (s + j)) n)))) h := by
  rw [g202]
  simp only [cI, e168, rI_i, b2i_0, w12 (show n < 2 ^ 31 by omega)]
  unfold arP
  by_cases c : 1 ≤ n ∧ n ≤ 12
  · rw [if_pos (fun z => z c), decide_eq_true c, Bool.true_and]
    have key : ∀ i k, k + i = n → anyB (fun j => !decide (0 ≤ hg h 89 (s + j) ∧ hg h 89 (s + j) ≤ 9)) k = false → (E X 202 14 [some (.ref 86), some (.int (nI s)), some (.int (nI n)), some (.int (nI k))] [] h Q ↔ Q (some (.int (bz (!anyB (fun j => !decide (0 ≤ hg h 89 (s + j) ∧ hg h 89 (s + j) ≤ 9)) n)))) h) := by
      intro i
      induction i with
      | zero =>
        intro k hk hf
        have : k = n := by omega
        subst this
        rw [g202_14, if_pos (nI_le (Nat.le_refl _) (by omega)), hf]
        exact Iff.rfl
      | succ i ih =>
        intro k hk hf
        have hkk : (nI (s + k)).toNatClampNeg = s + k := nI_clamp (by omega)
        rw [g202_14, if_neg (nI_ge (by omega) (by omega))]
        simp only [nI_add, hkk, bI (s + k) 240 (show s + k < 240 by omega) (by omega), if_false, cI, e168, rI_i, b2i_0, nI_1]
        by_cases c2 : 0 ≤ hg h 89 (s + k) ∧ hg h 89 (s + k) ≤ 9
        · rw [if_pos (fun z => z c2)]
          refine ih (k + 1) (by omega) ?_
          show (anyB _ k || !decide _) = false
          rw [hf, decide_eq_true c2]
          rfl
        · rw [if_neg (fun z => z c2)]
          have : anyB (fun j => !decide (0 ≤ hg h 89 (s + j) ∧ hg h 89 (s + j) ≤ 9)) n = true := anyB_iff.mpr ⟨k, by omega, by show (!decide _) = true; rw [decide_eq_false c2]; rfl⟩
          rw [this]
          exact Iff.rfl
    exact key n 0 (by omega) rfl
  · rw [if_neg (fun z => z c), decide_eq_false c, Bool.false_and]
    exact Iff.rfl
theorem anyB_congr {f g : Nat → Bool} : ∀ {n : Nat}, (∀ j, j < n → f j = g j) → anyB f n = anyB g n := by
  intro n
  induction n with
  | zero => intro _; rfl
  | succ n ih =>
    intro hh
    show (anyB f n || f n) = (anyB g n || g n)
    rw [ih (fun j hj => hh j (by omega)), hh n (by omega)]
theorem arP_congr {f g : Nat → Int32} {n : Nat} (hh : ∀ j, j < n → f j = g j) : arP f n = arP g n := by
  unfold arP
  rw [anyB_congr (f := fun j => !decide (0 ≤ f j ∧ f j ≤ 9)) (g := fun j => !decide (0 ≤ g j ∧ g j ≤ 9)) (fun j hj => by show (!decide _) = !decide _; rw [hh j hj])]
theorem arP_n {f : Nat → Int32} {n : Nat} (hh : arP f n = true) : 1 ≤ n ∧ n ≤ 12 := by
  unfold arP at hh
  rw [Bool.and_eq_true] at hh
  exact of_decide_eq_true hh.1
/-- the meetings row with agent A's -/
def fA (h : H2) (A k : Nat) : Nat → Int32 := fun j => if j < k ∧ mt h A j = true then hg h 61 j ||| bit A else hg h 61 j
theorem e47 (X : XS) (h : H2) (Q : Option Value → H2 → Prop) (A T n : Nat) (hA : A < 8) (hT : T ≤ 12) (n1 : 1 ≤ n) (n2 : n ≤ 12) (eA : hg h 34 7 = nI A) (eT : hg h 34 8 = nI T) (ot : ∀ t, t < T → TrOk h t) :
    EC X 47 [.ref 34, .ref 14, .int (nI n)] h Q ↔ Q (some (.int (nI A))) (sI (sR (sI (sC h (36 + A) 14 0 0 n) 44 A (nI n)) 61 (fA (sI (sC h (36 + A) 14 0 0 n) 44 A (nI n)) A T)) 34 7 (nI (A + 1))) := by
  have hk : (nI A).toNatClampNeg = A := nI_clamp (by omega)
  have hn : (nI n).toNatClampNeg = n := nI_clamp (by omega)
  have n8 : ¬ nI A = 8 := by
    have e : (8 : Int32) = nI 8 := by decide
    rw [e, nI_eq (by omega) (by omega)]
    omega
  have c0 : (0 : Int32).toNatClampNeg = 0 := by decide
  have z0 : ¬ (0 : Int32) < 0 := by decide
  have bb : ¬ (((0 : Int32) < 0 ∨ (0 : Int32) < 0 ∨ nI n < 0) ∨ 60 < 0 + n ∨ (0, 12).2 < 0 + n) := by
    rintro ((z | z | z) | z | z)
    · exact z0 z
    · exact z0 z
    · exact nI_pos (by omega) z
    · omega
    · have : 12 < 0 + n := z
      omega
  have o5 : (Nat.ble 5 (36 + A) && true) = true := by rw [show Nat.ble 5 (36 + A) = true from Nat.ble_eq.mpr (by omega)]; rfl
  rw [g47]
  simp only [eA, n8, not_false_iff, if_true, hk, bI A 8 hA (by omega), if_false, rc35 hA, oel_s', ok_of X.1 _ (36 + A) 12 (shR X.1 hA) (by omega), o5, Bool.and_self, cond_true, shR X.1 hA, c0, hn]
  rw [if_neg bb]
  have em : hg (sI (sC h (36 + A) 14 0 0 n) 44 A (nI n)) 44 A = nI n := hg_eq _ _ _ _
  have rd : ∀ b j, b ≠ 44 → b ≠ 36 + A → hg (sI (sC h (36 + A) 14 0 0 n) 44 A (nI n)) b j = hg h b j := fun b j z1 z2 => by rw [hg_ne _ z1, hg_sCn _ z2]
  generalize sI (sC h (36 + A) 14 0 0 n) 44 A (nI n) = g at *
  have key : ∀ i k, k + i = T → (E X 47 40 [some (.ref 34), some (.ref 14), some (.int (nI n)), some (.int (nI A)), some (.int (nI k))] [] (sR g 61 (fA g A k)) Q ↔ Q (some (.int (nI A))) (sI (sR g 61 (fA g A T)) 34 7 (nI (A + 1)))) := by
    intro i
    induction i with
    | zero =>
      intro k hki
      have : k = T := by omega
      subst this
      rw [g47_40, hg_sRn _ (by decide), rd _ _ (by decide) (by omega), eT, if_pos (nI_le (Nat.le_refl _) (by omega)), hg_sRn _ (by decide), rd _ _ (by decide) (by omega), eA, nI_1]
    | succ i ih =>
      intro k hki
      obtain ⟨nn, s, nn2, s2, en, -, es, -⟩ := ot k (by omega)
      have r2 : ∀ b j, b ≠ 61 → hg (sR g 61 (fA g A k)) b j = hg g b j := fun b j z => hg_sRn _ z
      have mm : mt (sR g 61 (fA g A k)) A k = mt g A k := mt_congr (fun j => r2 _ _ (by omega)) (fun j => r2 _ _ (by omega)) (r2 _ _ (by omega)) (r2 _ _ (by omega)) (r2 _ _ (by omega))
      rw [← ih (k + 1) (by omega), g47_40, r2 _ _ (by decide), rd _ _ (by decide) (by omega), eT, if_neg (nI_ge (by omega) (by omega))]
      simp only [cV, e50 X _ _ A k n nn s hA (by omega) n1 n2 (show hg (sR g 61 (fA g A k)) 44 A = nI n by rw [r2 _ _ (by decide), em]) nn2 (show hg (sR g 61 (fA g A k)) 58 k = nI nn by rw [r2 _ _ (by decide), rd _ _ (by decide) (by omega), en]) s2 (show hg (sR g 61 (fA g A k)) 59 k = nI s by rw [r2 _ _ (by decide), rd _ _ (by decide) (by omega), es]), rV_n, mm, nI_1, sI_sR, hg_sRe]
      by_cases c : mt g A k = true
      · rw [if_pos c]
        have : (fun j => if j = k then fA g A k k ||| bit A else fA g A k j) = fA g A (k + 1) := by
          funext j
          unfold fA
          by_cases cj : j = k
          · subst cj
            rw [if_pos rfl, if_neg (fun z => by omega), if_pos ⟨by omega, c⟩]
          · rw [if_neg cj]
            by_cases c2 : j < k ∧ mt g A j = true
            · rw [if_pos c2, if_pos ⟨by omega, c2.2⟩]
            · rw [if_neg c2, if_neg (fun z => c2 ⟨by omega, z.2⟩)]
        rw [this]
      · rw [if_neg c]
        have : fA g A k = fA g A (k + 1) := by
          funext j
          unfold fA
          by_cases c2 : j < k ∧ mt g A j = true
          · rw [if_pos c2, if_pos ⟨by omega, c2.2⟩]
          · rw [if_neg c2, if_neg]
            rintro ⟨z1, z2⟩
            by_cases cj : j = k
            · subst cj
              exact c z2
            · exact c2 ⟨by omega, z2⟩
        rw [this]
  have := key T 0 (by omega)
  rw [sR_self g 61 _ (fun j => by unfold fA; rw [if_neg (fun z => by omega)])] at this
  exact this
theorem e203 (X : XS) (h : H2) (Q : Option Value → H2 → Prop) (A s n : Nat) (hA : A < 8) (n2 : n ≤ 12) (hs : s + n ≤ 240) (eA : hg h 86 31 = nI A) (d1 d2 d3 d5 : Int32) :
    E X 203 91 [some (.ref 86), some (.int d1), some (.int d2), some (.int d3), some (.int (nI n)), some (.int d5), some (.int (nI s)), some (.int 0)] [] h Q ↔ Q (some (.int (nI A))) (sI (sP h 110 (12 * A) n (fun j => hg h 89 (s + j))) 86 31 (nI (A + 1))) := by
  have e12 : (12 : Int32) = nI 12 := by decide
  have key : ∀ i k, k + i = n → (E X 203 91 [some (.ref 86), some (.int d1), some (.int d2), some (.int d3), some (.int (nI n)), some (.int d5), some (.int (nI s)), some (.int (nI k))] [] (sP h 110 (12 * A) k (fun j => hg h 89 (s + j))) Q ↔ Q (some (.int (nI A))) (sI (sP h 110 (12 * A) n (fun j => hg h 89 (s + j))) 86 31 (nI (A + 1)))) := by
    intro i
    induction i with
    | zero =>
      intro k hk
      have : k = n := by omega
      subst this
      rw [g203_91, if_pos (nI_le (Nat.le_refl _) (by omega)), hg_sPn _ (by decide), eA, nI_1, nI_pred]
    | succ i ih =>
      intro k hk
      have k1 : (nI (s + k)).toNatClampNeg = s + k := nI_clamp (by omega)
      have k2 : (nI (12 * A + k)).toNatClampNeg = 12 * A + k := nI_clamp (by omega)
      rw [← ih (k + 1) (by omega), g203_91, if_neg (nI_ge (by omega) (by omega)), hg_sPn _ (show 86 ≠ 110 by decide), eA, hg_sPn _ (show 89 ≠ 110 by decide), nI_add, k1, if_neg (bI (s + k) 240 (by omega) (by omega)), e12, pk_mul, nI_add, k2, if_neg (bI (12 * A + k) 96 (by omega) (by omega)), nI_1, sP_succ]
  have := key n 0 (by omega)
  rw [sP_0] at this
  exact this
def InvHN (h : H2) : Prop := InvH h ∧ InvN h
theorem InvHN_f {h : H2} (iv : InvHN h) (x : Int32) : InvHN (sI (sI h 6 4 x) 86 0 x) := by
  refine ⟨InvH_f iv.1 x, InvN_w iv.2 ?_⟩
  intro a j ha
  by_cases e : a = 86
  · subst e
    rw [hg_nj _ (by omega), hg_ne _ (by decide)]
  · rw [hg_ne _ e, hg_ne _ (by omega)]
/-- after a good taking that is refused later on -/
theorem InvHN_t {h : H2} (iv : InvHN h) (k a n : Nat) : InvHN (sI (sC (sI h 6 4 0) 14 (8 + k) a 0 n) 86 0 0) ∧ Wr [0, 1, 5] h (sI (sC (sI h 6 4 0) 14 (8 + k) a 0 n) 86 0 0) := by
  refine ⟨⟨InvH_w iv.1 ?_ ?_, InvN_w iv.2 ?_⟩, ?_⟩
  · rw [hg_ne _ (by decide), hg_sCn _ (by decide), hg_eq, hg_eq]
  · intro b j hb
    rw [hg_ne _ (by omega), hg_sCn _ (by omega), hg_ne _ (by omega)]
  · intro b j hb
    by_cases e : b = 86
    · subst e
      rw [hg_nj _ (by omega), hg_sCn _ (by omega), hg_ne _ (by decide)]
    · rw [hg_ne _ e, hg_sCn _ (by omega), hg_ne _ (by omega)]
  · exact Wr_sI (Wr_sC (Wr_sI (Wr_refl _ _) (show (1 : Nat) ∈ _ by decide)) (fun j => show (0 : Nat) ∈ _ by decide)) (show (1 : Nat) ∈ _ by decide)
theorem agent_fin (h : H2) (iv : InvHN h) (A T k a n : Nat) (hk : k < 4) (hA : A < 8) (hT : T ≤ 12) (n1 : 1 ≤ n) (n2 : n ≤ 12) (han : a + n ≤ 60) (a1 : hg h 34 7 = nI A) (a2 : hg h 86 31 = nI A) (t1 : hg h 34 8 = nI T) (t2 : hg h 86 34 = nI T) (oa : ∀ a, a < A → AgOk h a) (ot : ∀ t, t < T → TrOk h t ∧ hg h 61 t = mtS h t A) (oz : ∀ t, T ≤ t → hg h 61 t = 0) (h1 g hD h2 : H2)
    (e1 : h1 = sC (sI h 6 4 0) 14 (8 + k) a 0 n) (eg : g = sI (sC h1 (36 + A) 14 0 0 n) 44 A (nI n)) (eD : hD = sI (sR g 61 (fA g A T)) 34 7 (nI (A + 1)))
    (e2 : h2 = sI (sP (sI (sI hD 86 0 0) 109 A (nI n)) 110 (12 * A) n (fun j => hg (sI (sI hD 86 0 0) 109 A (nI n)) 89 (60 * k + a + j))) 86 31 (nI (A + 1))) :
    InvHN h2 ∧ Wr [0, 1, 5] h h2 := by
  have rg : ∀ b j, b ≠ 44 → b ≠ 36 + A → b ≠ 14 → b ≠ 6 → hg g b j = hg h b j := by
    intro b j z1 z2 z3 z4
    rw [eg, hg_ne _ z1, hg_sCn _ z2, e1, hg_sCn _ z3, hg_ne _ z4]
  have rn : ∀ b j, b ≠ 86 → b ≠ 110 → b ≠ 109 → b ≠ 34 → b ≠ 61 → hg h2 b j = hg g b j := by
    intro b j z1 z2 z3 z4 z5
    rw [e2, hg_ne _ z1, hg_sPn _ z2, hg_ne _ z3, hg_ne _ z1, eD, hg_ne _ z4, hg_sRn _ z5]
  have rh : ∀ b j, b ≠ 44 → b ≠ 36 + A → b ≠ 14 → b ≠ 6 → b ≠ 86 → b ≠ 110 → b ≠ 109 → b ≠ 34 → b ≠ 61 → hg h2 b j = hg h b j := by
    intro b j z1 z2 z3 z4 z5 z6 z7 z8 z9
    rw [rn b j z5 z6 z7 z8 z9, rg b j z1 z2 z3 z4]
  have r86 : ∀ j, j ≠ 0 → j ≠ 31 → hg h2 86 j = hg h 86 j := by
    intro j z0 z1
    rw [e2, hg_nj _ z1, hg_sPn _ (by decide), hg_ne _ (by decide), hg_nj _ z0, eD, hg_ne _ (by decide), hg_sRn _ (by decide), rg _ _ (by decide) (by omega) (by decide) (by decide)]
  have r61 : ∀ j, hg h2 61 j = fA g A T j := by
    intro j
    rw [e2, hg_ne _ (by decide), hg_sPn _ (by decide), hg_ne _ (by decide), hg_ne _ (by decide), eD, hg_ne _ (by decide), hg_sRe]
  have r44 : ∀ j, hg g 44 j = if j = A then nI n else hg h 44 j := by
    intro j
    rw [eg, hg_sI]
    by_cases c : j = A
    · rw [if_pos ⟨rfl, c⟩, if_pos c]
    · rw [if_neg (fun z => c z.2), if_neg c, hg_sCn _ (by omega), e1, hg_sCn _ (by decide), hg_ne _ (by decide)]
  have rA : ∀ j, j < n → hg h2 (36 + A) j = hg h 89 (60 * k + a + j) := by
    intro j hj
    rw [rn _ _ (by omega) (by omega) (by omega) (by omega) (by omega), eg, hg_ne _ (by omega), hg_sC, if_pos ⟨rfl, by omega, by omega⟩, e1, hg_sC, if_pos ⟨rfl, by omega, by omega⟩, hg_ne _ (by omega)]
    obtain ⟨-, -, hr⟩ := iv.1.2 k hk
    have := hr (a + j) (by omega)
    rw [← Nat.add_assoc] at this
    rw [← this]
    congr 1
    omega
  have r89 : ∀ j, hg (sI (sI hD 86 0 0) 109 A (nI n)) 89 j = hg h 89 j := by
    intro j
    rw [hg_ne _ (by decide), hg_ne _ (by decide), eD, hg_ne _ (by decide), hg_sRn _ (by decide), rg _ _ (by decide) (by omega) (by decide) (by decide)]
  have r110 : ∀ j, hg h2 110 j = if 12 * A ≤ j ∧ j < 12 * A + n then hg h 89 (60 * k + a + (j - 12 * A)) else hg h 110 j := by
    intro j
    rw [e2, hg_ne _ (by decide), hg_sP]
    by_cases c : 12 * A ≤ j ∧ j < 12 * A + n
    · rw [if_pos ⟨rfl, c⟩, if_pos c, r89]
    · rw [if_neg (fun z => c z.2), if_neg c, hg_ne _ (by decide), hg_ne _ (by decide), eD, hg_ne _ (by decide), hg_sRn _ (by decide), rg _ _ (by decide) (by omega) (by decide) (by decide)]
  have r109 : ∀ j, hg h2 109 j = if j = A then nI n else hg h 109 j := by
    intro j
    rw [e2, hg_ne _ (by decide), hg_sPn _ (by decide), hg_sI]
    by_cases c : j = A
    · rw [if_pos ⟨rfl, c⟩, if_pos c]
    · rw [if_neg (fun z => c z.2), if_neg c, hg_ne _ (by decide), eD, hg_ne _ (by decide), hg_sRn _ (by decide), rg _ _ (by decide) (by omega) (by decide) (by decide)]
  have mc : ∀ b t, b < A → t < 12 → mt h2 b t = mt h b t := by
    intro b t hb ht
    refine mt_congr (fun j => rh _ _ ?_ ?_ ?_ ?_ ?_ ?_ ?_ ?_ ?_) (fun j => rh _ _ ?_ ?_ ?_ ?_ ?_ ?_ ?_ ?_ ?_) ?_ (rh _ _ ?_ ?_ ?_ ?_ ?_ ?_ ?_ ?_ ?_) (rh _ _ ?_ ?_ ?_ ?_ ?_ ?_ ?_ ?_ ?_)
    all_goals (first | omega | skip)
    rw [rn _ _ (by decide) (by decide) (by decide) (by decide) (by decide), r44, if_neg (by omega)]
  have mA : ∀ t, t < 12 → mt h2 A t = mt g A t := by
    intro t ht
    refine mt_congr (fun j => rn _ _ ?_ ?_ ?_ ?_ ?_) (fun j => rn _ _ ?_ ?_ ?_ ?_ ?_) (rn _ _ ?_ ?_ ?_ ?_ ?_) (rn _ _ ?_ ?_ ?_ ?_ ?_) (rn _ _ ?_ ?_ ?_ ?_ ?_) <;> omega
  refine ⟨⟨InvH_w iv.1 ?_ ?_, A + 1, T, by omega, hT, ?_, ?_, ?_, ?_, ?_, ?_, ?_⟩, ?_⟩
  · have q0 : hg h2 86 0 = 0 := by rw [e2, hg_nj _ (by decide), hg_sPn _ (by decide), hg_ne _ (by decide), hg_eq]
    rw [q0, e2, hg_ne _ (by decide), hg_sPn _ (by decide), hg_ne _ (by decide), hg_ne _ (by decide), eD, hg_ne _ (by decide), hg_sRn _ (by decide), eg, hg_ne _ (by decide), hg_sCn _ (by omega), e1, hg_sCn _ (by decide), hg_eq]
  · intro b j hb
    exact rh b j (by omega) (by omega) (by omega) (by omega) (by omega) (by omega) (by omega) (by omega) (by omega)
  · rw [e2, hg_ne _ (by decide), hg_sPn _ (by decide), hg_ne _ (by decide), hg_ne _ (by decide), eD, hg_eq]
  · rw [e2, hg_eq]
  · rw [e2, hg_ne _ (by decide), hg_sPn _ (by decide), hg_ne _ (by decide), hg_ne _ (by decide), eD, hg_nj _ (by decide), hg_sRn _ (by decide), rg _ _ (by decide) (by omega) (by decide) (by decide), t1]
  · rw [r86 _ (by decide) (by decide), t2]
  · intro b hb
    by_cases c : b = A
    · subst c
      refine ⟨n, n1, n2, ?_, ?_, ?_⟩
      · rw [rn _ _ (by decide) (by decide) (by decide) (by decide) (by decide), r44, if_pos rfl]
      · rw [r109, if_pos rfl]
      · intro j hj
        rw [rA j hj, r110, if_pos ⟨by omega, by omega⟩]
        congr 1
        omega
    · obtain ⟨m, m1, m2, em, em', ra⟩ := oa b (by omega)
      refine ⟨m, m1, m2, ?_, ?_, ?_⟩
      · rw [rn _ _ (by decide) (by decide) (by decide) (by decide) (by decide), r44, if_neg c, em]
      · rw [r109, if_neg c, em']
      · intro j hj
        rw [r110, if_neg (by omega), rh _ _ (by omega) (by omega) (by omega) (by omega) (by omega) (by omega) (by omega) (by omega) (by omega)]
        exact ra j hj
  · intro t ht
    obtain ⟨⟨nn, s, nn2, s2, en, en', es, es', ec, rt⟩, o2⟩ := ot t ht
    have rz : ∀ b j, b = 58 ∨ b = 113 ∨ b = 59 ∨ b = 111 ∨ b = 60 ∨ b = 112 ∨ b = 114 ∨ (46 ≤ b ∧ b < 58) → hg h2 b j = hg h b j := fun b j hb => rh b j (by omega) (by omega) (by omega) (by omega) (by omega) (by omega) (by omega) (by omega) (by omega)
    refine ⟨⟨nn, s, nn2, s2, ?_, ?_, ?_, ?_, ?_, ?_⟩, ?_⟩
    · rw [rz _ _ (by omega), en]
    · rw [rz _ _ (by omega), en']
    · rw [rz _ _ (by omega), es]
    · rw [rz _ _ (by omega), es']
    · rw [rz _ _ (by omega), rz _ _ (by omega), ec]
    · intro j hj
      rw [rz _ _ (by omega), rz _ _ (by omega)]
      exact rt j hj
    · rw [r61]
      have e3 : mtS h2 t (A + 1) = if mt h2 A t = true then mtS h2 t A ||| bit A else mtS h2 t A := rfl
      rw [e3, mA t (by omega), mtS_congr (fun b hb => mc b t hb (by omega))]
      unfold fA
      rw [rg _ _ (by decide) (by omega) (by decide) (by decide), o2]
      by_cases c : mt g A t = true
      · rw [if_pos ⟨ht, c⟩, if_pos c]
      · rw [if_neg (fun z => c z.2), if_neg c]
  · intro t ht
    rw [r61]
    unfold fA
    rw [if_neg (fun z => by omega), rg _ _ (by decide) (by omega) (by decide) (by decide), oz t ht]
  · have m1 : (1 : Nat) ∈ [0, 1, 5] := by decide
    have m0 : (0 : Nat) ∈ [0, 1, 5] := by decide
    have m5 : (5 : Nat) ∈ [0, 1, 5] := by decide
    subst e1
    subst eg
    subst eD
    subst e2
    exact Wr_sI (Wr_sP (Wr_sI (Wr_sI (Wr_sI (Wr_sR (Wr_sI (Wr_sC (Wr_sC (Wr_sI (Wr_refl _ _) m1) (fun j => m0)) (fun j => by rw [comR hA]; exact m5)) m5) (fun j => m5)) m5) m1) m5) (fun j => m5)) m5
theorem tkW_nz (h : H2) (k : Nat) (p1 p2 p3 : Int32) : ¬ ((-10 : Int32) - tkW h k p1 p2 p3 = 0) := by
  have t : tkW h k p1 p2 p3 = 0 ∨ tkW h k p1 p2 p3 = 1 ∨ tkW h k p1 p2 p3 = 2 ∨ tkW h k p1 p2 p3 = 3 ∨ tkW h k p1 p2 p3 = 4 := by
    unfold tkW
    by_cases h1 : hg h 12 k = -1
    · rw [if_pos h1]; exact Or.inr (Or.inl rfl)
    · rw [if_neg h1]
      by_cases h2 : hg h 12 k = p1
      · rw [if_pos h2]
        by_cases h3 : 0 ≤ p3
        · rw [if_pos h3]
          by_cases h4 : 0 ≤ p2 ∧ p2 ≤ hg h 13 k
          · rw [if_pos h4]
            by_cases h5 : hg h 13 k - p3 < p2
            · rw [if_pos h5]; exact Or.inr (Or.inr (Or.inr (Or.inl rfl)))
            · rw [if_neg h5]; exact Or.inl rfl
          · rw [if_neg h4]; exact Or.inr (Or.inr (Or.inr (Or.inl rfl)))
        · rw [if_neg h3]; exact Or.inr (Or.inr (Or.inr (Or.inr rfl)))
      · rw [if_neg h2]; exact Or.inr (Or.inr (Or.inl rfl))
  rcases t with e | e | e | e | e <;> rw [e] <;> decide
theorem n_2 : ¬ (-2 : Int32) = 0 := by decide
theorem n_1 : ¬ (-1 : Int32) = 0 := by decide
