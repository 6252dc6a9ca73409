/-! court, sue, heard, waiting -/
def hrd (h : H2) (c J : Nat) (mn : Int32) : SC := dayF c J (hg h 75) (hg h 76) (hg h 77) mn 100
def CtOk (h : H2) (c J : Nat) (mn : Int32) : Prop := c ≤ 30 ∧ J ≤ 4 ∧ hg h 74 5 = nI J ∧ hg h 86 59 = nI J ∧ hg h 74 6 = mn ∧ hg h 86 60 = mn ∧ hg h 74 7 = nI c ∧ hg h 86 61 = nI c ∧ (∀ k, k < c → hg h 125 k = hg h 75 k ∧ hg h 126 k = hg h 76 k ∧ hg h 127 k = hg h 77 k) ∧ hg h 74 8 = nI (hrd h c J mn).2.2 ∧ (∀ k, k < c → hg h 78 k = (hrd h c J mn).1 k ∧ hg h 79 k = (hrd h c J mn).2.1 k)
def InvC (h : H2) : Prop := ∃ (c J : Nat) (mn : Int32), CtOk h c J mn
theorem hrd_congr {h h' : H2} (r5 : ∀ j, hg h' 75 j = hg h 75 j) (r6 : ∀ j, hg h' 76 j = hg h 76 j) (r7 : ∀ j, hg h' 77 j = hg h 77 j) (c J : Nat) (mn : Int32) : hrd h' c J mn = hrd h c J mn := by
  unfold hrd
  rw [show hg h' 75 = hg h 75 from funext r5, show hg h' 76 = hg h 76 from funext r6, show hg h' 77 = hg h 77 from funext r7]
theorem InvC_w {h h' : H2} {c J : Nat} {mn : Int32} (iv : CtOk h c J mn) (hr : ∀ a j, (75 ≤ a ∧ a < 80) ∨ (125 ≤ a ∧ a < 128) ∨ (a = 74 ∧ 5 ≤ j ∧ j < 9) ∨ (a = 86 ∧ 59 ≤ j ∧ j < 62) → hg h' a j = hg h a j) : CtOk h' c J mn := by
  obtain ⟨hc, hJ, j1, j2, m1, m2, c1, c2, ag, n1, on⟩ := iv
  have e := hrd_congr (h := h) (h' := h') (fun j => hr _ _ (by omega)) (fun j => hr _ _ (by omega)) (fun j => hr _ _ (by omega)) c J mn
  refine ⟨hc, hJ, ?_, ?_, ?_, ?_, ?_, ?_, ?_, ?_, ?_⟩
  · rw [hr _ _ (by omega), j1]
  · rw [hr _ _ (by omega), j2]
  · rw [hr _ _ (by omega), m1]
  · rw [hr _ _ (by omega), m2]
  · rw [hr _ _ (by omega), c1]
  · rw [hr _ _ (by omega), c2]
  · intro k hk
    rw [hr _ _ (by omega), hr _ _ (by omega), hr _ _ (by omega), hr _ _ (by omega), hr _ _ (by omega), hr _ _ (by omega)]
    exact ag k hk
  · rw [hr _ _ (by omega), n1, e]
  · intro k hk
    rw [hr _ _ (by omega), hr _ _ (by omega), e]
    exact on k hk
theorem Wr_hM {s : List Nat} {h h' : H2} {c : Nat} {S : SC} (w : Wr s h h') (h0 : 0 ∈ s) : Wr s h (hM h' c S) := Wr_sR (Wr_sR w (fun _ => h0)) (fun _ => h0)
theorem Wr_hD {s : List Nat} {h h' : H2} {S : SC} (w : Wr s h h') (h8 : 8 ∈ s) : Wr s h (hD h' S) := Wr_sI (Wr_sR (Wr_sR w (fun _ => h8)) (fun _ => h8)) h8
theorem e240i (X : XS) (h : H2) (Q : Option Value → H2 → Prop) (c J : Nat) (mn : Int32) (iv : CtOk h c J mn) : EC X 240 [.ref 86] h Q ↔ Q (some (.int (nI (hrd h c J mn).2.2))) (hM h c (hrd h c J mn)) := by
  obtain ⟨hc, hJ, j1, j2, m1, m2, c1, c2, ag, n1, on⟩ := iv
  exact e240 X h Q c J hc hJ c2 j2 mn m2 _ _ _ (fun k hk => (ag k hk).1) (fun k hk => (ag k hk).2.1) (fun k hk => (ag k hk).2.2)
theorem c_court (X : XS) (h : H2) (iv : InvC h) (p0 p1 : Int32) : EC X 139 [.ref 5, .int p0, .int p1] h (fun v1 h1 => EC X 241 [.ref 86, .int p0, .int p1] h1 (fun v2 h2 => v1 = v2 ∧ InvC h2 ∧ Wr [0, 8] h h2)) := by
  have iv' := iv
  obtain ⟨c, J, mn, hc, hJ, j1, j2, m1, m2, c1, c2, ag, n1, on⟩ := iv
  rw [g139]
  simp only [cI, e161, rI_i, b2i_0]
  by_cases hp : 1 ≤ p0 ∧ p0 ≤ 4
  · rw [if_neg (fun z => z hp)]
    by_cases hq : 1 ≤ p1 ∧ p1 ≤ 600
    · rw [if_pos (fun z => z hq), g28]
      have e4 : (4 : Int32) = nI 5 - 1 := by decide
      obtain ⟨K, hK, rfl⟩ := (inR_le (v := p0) (show 5 < 2 ^ 31 by omega)).mp ⟨Int32.le_trans (by decide) hp.1, by rw [← e4]; exact hp.2⟩
      show EC X 31 _ _ _
      have r0 : ∀ b j, b ≠ 74 → hg (sI (sI h 74 5 (nI K)) 74 6 p1) b j = hg h b j := fun b j z => by rw [hg_ne _ z, hg_ne _ z]
      have s7 : hg (sI (sI h 74 5 (nI K)) 74 6 p1) 74 7 = nI c := by rw [hg_nj _ (by decide), hg_nj _ (by decide), c1]
      have s5 : hg (sI (sI h 74 5 (nI K)) 74 6 p1) 74 5 = nI K := by rw [hg_nj _ (by decide), hg_eq]
      have s6 : hg (sI (sI h 74 5 (nI K)) 74 6 p1) 74 6 = p1 := by rw [hg_eq]
      have w0 : Wr [0, 8] h (sI (sI h 74 5 (nI K)) 74 6 p1) := Wr_sI (Wr_sI (Wr_refl _ _) (show (8 : Nat) ∈ _ by decide)) (show (8 : Nat) ∈ _ by decide)
      rw [e31 X _ _ c K hc (by omega) s7 s5 p1 s6, rV_n]
      dsimp only
      rw [rI_i, hD_n]
      have eS : dayF c K (hg (sI (sI h 74 5 (nI K)) 74 6 p1) 75) (hg (sI (sI h 74 5 (nI K)) 74 6 p1) 76) (hg (sI (sI h 74 5 (nI K)) 74 6 p1) 77) p1 100 = hrd h c K p1 := hrd_congr (fun j => r0 _ _ (by decide)) (fun j => r0 _ _ (by decide)) (fun j => r0 _ _ (by decide)) c K p1
      rw [eS]
      generalize eg0 : sI (sI h 74 5 (nI K)) 74 6 p1 = g0 at *
      rw [g241]
      simp only [cI, e168, rI_i, b2i_0, hp, hq, and_self, not_true, not_false_iff, if_true, if_false]
      generalize eg1 : sI (sI (hD g0 (hrd h c K p1)) 86 59 (nI K)) 86 60 p1 = g1
      have r1 : ∀ b j, b ≠ 86 → b ≠ 78 → b ≠ 79 → ¬ (b = 74 ∧ j = 8) → hg g1 b j = hg g0 b j := fun b j z1 z2 z3 z4 => by rw [← eg1, hg_ne _ z1, hg_ne _ z1, hD_o _ _ _ _ z2 z3 z4]
      have q86 : ∀ j, j ≠ 59 → j ≠ 60 → hg g1 86 j = hg h 86 j := fun j z1 z2 => by rw [← eg1, hg_nj _ z2, hg_nj _ z1, hD_o _ _ _ _ (by decide) (by decide) (fun z => by omega), r0 _ _ (by decide)]
      have q59 : hg g1 86 59 = nI K := by rw [← eg1, hg_nj _ (by decide), hg_eq]
      have q60 : hg g1 86 60 = p1 := by rw [← eg1, hg_eq]
      have rr : ∀ b j, b ≠ 86 → b ≠ 78 → b ≠ 79 → b ≠ 74 → hg g1 b j = hg h b j := fun b j z1 z2 z3 z4 => by rw [r1 b j z1 z2 z3 (fun z => z4 z.1), r0 b j z4]
      have e2 : hrd g1 c K p1 = hrd h c K p1 := hrd_congr (fun j => rr _ _ (by decide) (by decide) (by decide) (by decide)) (fun j => rr _ _ (by decide) (by decide) (by decide) (by decide)) (fun j => rr _ _ (by decide) (by decide) (by decide) (by decide)) c K p1
      have ok : CtOk g1 c K p1 := by
        refine ⟨hc, by omega, ?_, q59, ?_, q60, ?_, ?_, ?_, ?_, ?_⟩
        · rw [r1 _ _ (by decide) (by decide) (by decide) (by decide), s5]
        · rw [r1 _ _ (by decide) (by decide) (by decide) (by decide), s6]
        · rw [r1 _ _ (by decide) (by decide) (by decide) (by decide), s7]
        · rw [q86 _ (by decide) (by decide), c2]
        · intro k hk
          rw [rr _ _ (by decide) (by decide) (by decide) (by decide), rr _ _ (by decide) (by decide) (by decide) (by decide), rr _ _ (by decide) (by decide) (by decide) (by decide), rr _ _ (by decide) (by decide) (by decide) (by decide), rr _ _ (by decide) (by decide) (by decide) (by decide), rr _ _ (by decide) (by decide) (by decide) (by decide)]
          exact ag k hk
        · rw [e2, ← eg1, hg_ne _ (by decide), hg_ne _ (by decide), hD_n]
        · intro k hk
          rw [e2, ← eg1, hg_ne _ (by decide), hg_ne _ (by decide), hD_78, hg_ne _ (by decide), hg_ne _ (by decide), hD_79, rwR_in (by omega), rwR_in (by omega)]
          exact ⟨rfl, rfl⟩
      rw [e240i X g1 _ c K p1 ok, rI_i, e2]
      refine ⟨rfl, ⟨c, K, p1, InvC_w ok ?_⟩, ?_⟩
      · intro a j ha
        exact hM_o _ _ _ _ _ (by omega) (by omega)
      · rw [← eg1]
        exact Wr_hM (Wr_sI (Wr_sI (Wr_hD w0 (by decide)) (show (8 : Nat) ∈ _ by decide)) (show (8 : Nat) ∈ _ by decide)) (by decide)
    · rw [if_neg (fun z => z hq), g241]
      simp only [cI, e168, rI_i, b2i_0, hp, hq, and_self, not_true, not_false_iff, if_false]
      exact ⟨trivial, iv', Wr_refl _ _⟩
  · rw [if_pos hp, g241]
    simp only [cI, e168, rI_i, b2i_0, hp, not_false_iff, if_true]
    exact ⟨trivial, iv', Wr_refl _ _⟩
theorem e30 (X : XS) (h : H2) (Q : Option Value → H2 → Prop) (p0 : Int32) : EC X 30 [.ref 74, .int p0] h Q ↔ Q (some (.int (b2i (0 ≤ p0 ∧ p0 ≤ hg h 74 7 - 1)))) h := by
  rw [g30]
  simp only [cI, e161, rI_i, b01_b2i, cond_true]
theorem c_heard (X : XS) (h : H2) (iv : InvC h) (p0 p1 : Int32) : EC X 141 [.ref 5, .int p0, .int p1] h (fun v1 h1 => EC X 243 [.ref 86, .int p0, .int p1] h1 (fun v2 h2 => v1 = v2 ∧ InvC h2 ∧ Wr [0, 8] h h2)) := by
  have iv' := iv
  obtain ⟨c, J, mn, ok⟩ := iv
  have ok' := ok
  obtain ⟨hc, hJ, j1, j2, m1, m2, c1, c2, ag, n1, on⟩ := ok
  rw [g141]
  show EC X 30 _ _ _
  rw [e30, rI_i, c1]
  dsimp only
  by_cases hp : 0 ≤ p0 ∧ p0 < nI c
  · have hp2 := (inR_c (show c < 2 ^ 31 by omega)).mpr hp
    rw [b2i_t hp2, if_pos n1_0]
    have n0 : ¬ p0 < 0 := i_nlt.mpr hp.1
    have n1' := hp.2
    obtain ⟨k, hk, rfl⟩ := (inR_lt (show c < 2 ^ 31 by omega)).mp hp
    have hkk : (nI k).toNatClampNeg = k := nI_clamp (by omega)
    have bk := bI k 30 (show k < 30 by omega) (by omega)
    have md : ∀ R, EC X 243 [.ref 86, .int (nI k), .int p1] h R ↔ (if p1 = 0 then R (some (.int (hg h 75 k))) (hM h c (hrd h c J mn)) else if p1 = 1 then R (some (.int (hg h 76 k))) (hM h c (hrd h c J mn)) else if p1 = 2 then R (some (.int (hg h 77 k))) (hM h c (hrd h c J mn)) else if p1 = 3 then R (some (.int (hg h 78 k))) (hM h c (hrd h c J mn)) else if p1 = 4 then R (some (.int (hg h 79 k))) (hM h c (hrd h c J mn)) else R (some (.int (-2))) (hM h c (hrd h c J mn))) := by
      intro R
      rw [g243, if_neg n0, c2, if_pos n1']
      show EC X 240 _ _ _ ↔ _
      rw [e240i X h _ c J mn ok', rI_i]
      dsimp only
      rw [hkk, if_neg bk, if_neg bk, if_neg bk, if_neg bk, if_neg bk, hM_o _ _ _ _ _ (by decide) (by decide), hM_o _ _ _ _ _ (by decide) (by decide), hM_o _ _ _ _ _ (by decide) (by decide), hM_128, hM_129, rwR_in hk, rwR_in hk, (ag k hk).1, (ag k hk).2.1, (ag k hk).2.2, (on k hk).1, (on k hk).2]
    have fin : InvC (hM h c (hrd h c J mn)) ∧ Wr [0, 8] h (hM h c (hrd h c J mn)) := by
      refine ⟨⟨c, J, mn, InvC_w ok' ?_⟩, Wr_hM (Wr_refl _ _) (by decide)⟩
      intro a j ha
      exact hM_o _ _ _ _ _ (by omega) (by omega)
    rw [hkk, if_neg bk, if_neg bk, if_neg bk, if_neg bk, if_neg bk]
    by_cases q0 : p1 = 0
    · rw [if_pos q0, md, if_pos q0]; exact ⟨rfl, fin⟩
    rw [if_neg q0]
    by_cases q1 : p1 = 1
    · rw [if_pos q1, md, if_neg q0, if_pos q1]; exact ⟨rfl, fin⟩
    rw [if_neg q1]
    by_cases q2 : p1 = 2
    · rw [if_pos q2, md, if_neg q0, if_neg q1, if_pos q2]; exact ⟨rfl, fin⟩
    rw [if_neg q2]
    by_cases q3 : p1 = 3
    · rw [if_pos q3, md, if_neg q0, if_neg q1, if_neg q2, if_pos q3]; exact ⟨rfl, fin⟩
    rw [if_neg q3]
    by_cases q4 : p1 = 4
    · rw [if_pos q4, md, if_neg q0, if_neg q1, if_neg q2, if_neg q3, if_pos q4]; exact ⟨rfl, fin⟩
    rw [if_neg q4, md, if_neg q0, if_neg q1, if_neg q2, if_neg q3, if_neg q4]
    exact ⟨rfl, fin⟩
  · have hp2 : ¬ (0 ≤ p0 ∧ p0 ≤ nI c - 1) := fun z => hp ((inR_c (show c < 2 ^ 31 by omega)).mp z)
    rw [b2i_f hp2, if_neg (fun z => z rfl), g243, c2]
    by_cases n0 : p0 < 0
    · rw [if_pos n0]
      exact ⟨rfl, iv', Wr_refl _ _⟩
    · rw [if_neg n0, if_neg (fun z => hp ⟨i_nlt.mp n0, z⟩)]
      exact ⟨rfl, iv', Wr_refl _ _⟩
def wtB (on day : Nat → Int32) (d : Int32) (k : Nat) : Bool := decide (day k ≤ d ∧ (on k = -9 ∨ d < on k))
theorem e35 (X : XS) (h : H2) (Q : Option Value → H2 → Prop) (c : Nat) (hc : c ≤ 30) (ec : hg h 74 7 = nI c) (d : Int32) : EC X 35 [.ref 74, .int d] h Q ↔ Q (some (.int (nI (cnt (wtB (hg h 78) (hg h 76) d) c)))) h := by
  have key : ∀ i k u, k + i = c → (E X 35 4 [some (.ref 74), some (.int d), some (.int (nI (cnt (wtB (hg h 78) (hg h 76) d) k))), some (.int (nI k)), u] [] h Q ↔ Q (some (.int (nI (cnt (wtB (hg h 78) (hg h 76) d) c)))) h) := by
    intro i
    induction i with
    | zero =>
      intro k u hk
      have : k = c := by omega
      subst this
      rw [g35_4, ec, if_pos (nI_le (Nat.le_refl _) (by omega))]
    | succ i ih =>
      intro k u hk
      have hkk : (nI k).toNatClampNeg = k := nI_clamp (by omega)
      have bk := bI k 30 (show k < 30 by omega) (by omega)
      have i1 : ∀ u, E X 35 4 [some (.ref 74), some (.int d), some (.int (nI (cnt (wtB (hg h 78) (hg h 76) d) (k + 1)))), some (.int (nI (k + 1))), u] [] h Q ↔ Q (some (.int (nI (cnt (wtB (hg h 78) (hg h 76) d) c)))) h := fun u => ih (k + 1) u (by omega)
      have ee : cnt (wtB (hg h 78) (hg h 76) d) (k + 1) = cnt (wtB (hg h 78) (hg h 76) d) k + (if wtB (hg h 78) (hg h 76) d k = true then 1 else 0) := rfl
      rw [g35_4, ec, if_neg (nI_ge (by omega) (by omega))]
      simp only [hkk, bk, if_false, nI_1, n1_0, not_false_iff, not_true, if_true]
      have yes : wtB (hg h 78) (hg h 76) d k = true → ∀ u, E X 35 4 [some (.ref 74), some (.int d), some (.int (nI (cnt (wtB (hg h 78) (hg h 76) d) k + 1))), some (.int (nI (k + 1))), u] [] h Q ↔ Q (some (.int (nI (cnt (wtB (hg h 78) (hg h 76) d) c)))) h := by
        intro z u
        rw [ee, if_pos z] at i1
        exact i1 u
      have no : ¬ wtB (hg h 78) (hg h 76) d k = true → ∀ u, E X 35 4 [some (.ref 74), some (.int d), some (.int (nI (cnt (wtB (hg h 78) (hg h 76) d) k))), some (.int (nI (k + 1))), u] [] h Q ↔ Q (some (.int (nI (cnt (wtB (hg h 78) (hg h 76) d) c)))) h := by
        intro z u
        rw [ee, if_neg z] at i1
        exact i1 u
      by_cases c1 : d < hg h 76 k
      · have nn : ¬ wtB (hg h 78) (hg h 76) d k = true := fun z => absurd c1 (i_nlt.mpr (of_decide_eq_true z).1)
        by_cases c2 : hg h 78 k = -9
        · rw [if_pos c2, if_pos c1]
          exact no nn _
        · rw [if_neg c2]
          by_cases c3 : d < hg h 78 k
          · rw [if_pos c3, if_pos c1]
            exact no nn _
          · rw [if_neg c3, if_pos c1]
            exact no nn _
      · by_cases c2 : hg h 78 k = -9
        · rw [if_pos c2, if_neg c1]
          exact yes (decide_eq_true ⟨i_nlt.mp c1, Or.inl c2⟩) _
        · rw [if_neg c2]
          by_cases c3 : d < hg h 78 k
          · rw [if_pos c3, if_neg c1]
            exact yes (decide_eq_true ⟨i_nlt.mp c1, Or.inr c3⟩) _
          · rw [if_neg c3, if_neg c1]
            refine no (fun z => ?_) _
            rcases (of_decide_eq_true z).2 with q | q
            · exact c2 q
            · exact c3 q
  rw [g35]
  exact key c 0 _ (by omega)
theorem e244 (X : XS) (h : H2) (Q : Option Value → H2 → Prop) (c : Nat) (hc : c ≤ 30) (ec : hg h 86 61 = nI c) (d u : Int32) (on day : Nat → Int32) (r1 : ∀ k, k < c → hg h 128 k = on k) (r2 : ∀ k, k < c → hg h 126 k = day k) : E X 244 20 [some (.ref 86), some (.int d), some (.int u), some (.int 0), some (.int 0)] [] h Q ↔ Q (some (.int (nI (cnt (wtB on day d) c)))) h := by
  have key : ∀ i k, k + i = c → (E X 244 20 [some (.ref 86), some (.int d), some (.int u), some (.int (nI (cnt (wtB on day d) k))), some (.int (nI k))] [] h Q ↔ Q (some (.int (nI (cnt (wtB on day d) c)))) h) := by
    intro i
    induction i with
    | zero =>
      intro k hk
      have : k = c := by omega
      subst this
      rw [g244_20, ec, if_pos (nI_le (Nat.le_refl _) (by omega))]
    | succ i ih =>
      intro k hk
      have hkk : (nI k).toNatClampNeg = k := nI_clamp (by omega)
      have bk := bI k 30 (show k < 30 by omega) (by omega)
      have i1 := ih (k + 1) (by omega)
      have ee : cnt (wtB on day d) (k + 1) = cnt (wtB on day d) k + (if wtB on day d k = true then 1 else 0) := rfl
      rw [g244_20, ec, if_neg (nI_ge (by omega) (by omega))]
      simp only [hkk, bk, if_false, nI_1, Int32.add_zero, r1 k (show k < c by omega), r2 k (show k < c by omega)]
      by_cases c1 : d < day k
      · rw [if_pos c1]
        rw [ee, if_neg (fun z => absurd c1 (i_nlt.mpr (of_decide_eq_true z).1))] at i1
        exact i1
      · rw [if_neg c1]
        by_cases c2 : on k = -9
        · rw [if_pos c2]
          rw [ee, if_pos (show wtB on day d k = true from decide_eq_true ⟨i_nlt.mp c1, Or.inl c2⟩)] at i1
          exact i1
        · rw [if_neg c2]
          by_cases c3 : on k ≤ d
          · rw [if_pos c3]
            rw [ee, if_neg] at i1
            · exact i1
            · intro z
              rcases (of_decide_eq_true z).2 with q | q
              · exact c2 q
              · exact absurd q (Int32.not_lt.mpr c3)
          · rw [if_neg c3]
            rw [ee, if_pos (show wtB on day d k = true from decide_eq_true ⟨i_nlt.mp c1, Or.inr (Int32.not_le.mp c3)⟩)] at i1
            exact i1
  exact key c 0 (by omega)
theorem c_waiting (X : XS) (h : H2) (iv : InvC h) (p0 : Int32) : EC X 142 [.ref 5, .int p0] h (fun v1 h1 => EC X 244 [.ref 86, .int p0] h1 (fun v2 h2 => v1 = v2 ∧ InvC h2 ∧ Wr [0, 8] h h2)) := by
  have iv' := iv
  obtain ⟨c, J, mn, ok⟩ := iv
  have ok' := ok
  obtain ⟨hc, hJ, j1, j2, m1, m2, c1, c2, ag, n1, on⟩ := ok
  rw [g142]
  simp only [cI, e162, rI_i, b2i_0]
  by_cases hp : 0 ≤ p0 ∧ p0 ≤ 99
  · rw [if_neg (fun z => z hp), e35 X h _ c hc c1, rI_i]
    rw [g244]
    simp only [cI, e169, rI_i, b2i_0, hp, and_self, not_true, not_false_iff, if_true]
    rw [e240i X h _ c J mn ok', rI_i]
    rw [e244 X _ _ c hc (by rw [hM_o _ _ _ _ _ (by decide) (by decide), c2]) p0 _ (hg h 78) (hg h 76) (fun k hk => by rw [hM_128, rwR_in hk, (on k hk).1]) (fun k hk => by rw [hM_o _ _ _ _ _ (by decide) (by decide), (ag k hk).2.1])]
    refine ⟨rfl, ⟨c, J, mn, InvC_w ok' ?_⟩, Wr_hM (Wr_refl _ _) (by decide)⟩
    intro a j ha
    exact hM_o _ _ _ _ _ (by omega) (by omega)
  · rw [if_pos hp, g244]
    simp only [cI, e169, rI_i, b2i_0, hp, not_true, not_false_iff, if_false]
    exact ⟨trivial, iv', Wr_refl _ _⟩
theorem c_sue (X : XS) (h : H2) (iv : InvC h) (p0 p1 p2 : Int32) : EC X 140 [.ref 5, .int p0, .int p1, .int p2] h (fun v1 h1 => EC X 242 [.ref 86, .int p0, .int p1, .int p2] h1 (fun v2 h2 => v1 = v2 ∧ InvC h2 ∧ Wr [0, 8] h h2)) := by
  have iv' := iv
  obtain ⟨c, J, mn, hc, hJ, j1, j2, m1, m2, c1, c2, ag, n1, on⟩ := iv
  rw [g140]
  simp only [cI, e161, e162, rI_i, b2i_0]
  by_cases hp : 1 ≤ p0 ∧ p0 ≤ 600
  · rw [if_neg (fun z => z hp)]
    by_cases hq : 0 ≤ p1 ∧ p1 ≤ 99
    · rw [if_neg (fun z => z hq)]
      by_cases hr : 0 ≤ p2 ∧ p2 ≤ 9
      · rw [if_pos (fun z => z hr), g29, c1]
        have e30 : (30 : Int32) = nI 30 := by decide
        by_cases h30 : c = 30
        · subst h30
          rw [if_neg (fun z => z (by decide)), rI_i, g242]
          simp only [cI, e168, e169, rI_i, b2i_0, hp, hq, hr, and_self, not_true, not_false_iff, if_true, if_false, c2, e30]
          exact ⟨trivial, iv', Wr_refl _ _⟩
        · have n30 : ¬ nI c = 30 := by rw [e30, nI_eq (by omega) (by omega)]; exact h30
          have hkk : (nI c).toNatClampNeg = c := nI_clamp (by omega)
          have bk := bI c 30 (show c < 30 by omega) (by omega)
          rw [if_pos n30, hkk, if_neg bk, if_neg bk, if_neg bk, nI_1]
          show EC X 31 _ _ _
          have m8 : (8 : Nat) ∈ [0, 8] := by decide
          have w0 : Wr [0, 8] h (sI (sI (sI (sI h 75 c p0) 76 c p1) 77 c p2) 74 7 (nI (c + 1))) := Wr_sI (Wr_sI (Wr_sI (Wr_sI (Wr_refl _ _) m8) m8) m8) m8
          have r0 : ∀ b j, b ≠ 74 → b ≠ 75 → b ≠ 76 → b ≠ 77 → hg (sI (sI (sI (sI h 75 c p0) 76 c p1) 77 c p2) 74 7 (nI (c + 1))) b j = hg h b j := fun b j z1 z2 z3 z4 => by rw [hg_ne _ z1, hg_ne _ z4, hg_ne _ z3, hg_ne _ z2]
          have s7 : hg (sI (sI (sI (sI h 75 c p0) 76 c p1) 77 c p2) 74 7 (nI (c + 1))) 74 7 = nI (c + 1) := by rw [hg_eq]
          have s5 : hg (sI (sI (sI (sI h 75 c p0) 76 c p1) 77 c p2) 74 7 (nI (c + 1))) 74 5 = nI J := by rw [hg_nj _ (by decide), hg_ne _ (by decide), hg_ne _ (by decide), hg_ne _ (by decide), j1]
          have s6 : hg (sI (sI (sI (sI h 75 c p0) 76 c p1) 77 c p2) 74 7 (nI (c + 1))) 74 6 = mn := by rw [hg_nj _ (by decide), hg_ne _ (by decide), hg_ne _ (by decide), hg_ne _ (by decide), m1]
          have t5 : ∀ j, hg (sI (sI (sI (sI h 75 c p0) 76 c p1) 77 c p2) 74 7 (nI (c + 1))) 75 j = if j = c then p0 else hg h 75 j := fun j => by
            rw [hg_ne _ (by decide), hg_ne _ (by decide), hg_ne _ (by decide), hg_sI]
            by_cases e : j = c
            · rw [if_pos ⟨rfl, e⟩, if_pos e]
            · rw [if_neg (fun z => e z.2), if_neg e]
          have t6 : ∀ j, hg (sI (sI (sI (sI h 75 c p0) 76 c p1) 77 c p2) 74 7 (nI (c + 1))) 76 j = if j = c then p1 else hg h 76 j := fun j => by
            rw [hg_ne _ (by decide), hg_ne _ (by decide), hg_sI, hg_ne _ (by decide)]
            by_cases e : j = c
            · rw [if_pos ⟨rfl, e⟩, if_pos e]
            · rw [if_neg (fun z => e z.2), if_neg e]
          have t7 : ∀ j, hg (sI (sI (sI (sI h 75 c p0) 76 c p1) 77 c p2) 74 7 (nI (c + 1))) 77 j = if j = c then p2 else hg h 77 j := fun j => by
            rw [hg_ne _ (by decide), hg_sI, hg_ne _ (by decide), hg_ne _ (by decide)]
            by_cases e : j = c
            · rw [if_pos ⟨rfl, e⟩, if_pos e]
            · rw [if_neg (fun z => e z.2), if_neg e]
          generalize eg0 : sI (sI (sI (sI h 75 c p0) 76 c p1) 77 c p2) 74 7 (nI (c + 1)) = g0 at *
          rw [e31 X _ _ (c + 1) J (by omega) hJ s7 s5 mn s6, rV_n]
          dsimp only
          rw [rI_i, hD_o _ _ _ _ (by decide) (by decide) (by decide), s7, nI_pred]
          have eS : dayF (c + 1) J (hg g0 75) (hg g0 76) (hg g0 77) mn 100 = hrd g0 (c + 1) J mn := rfl
          rw [eS]
          have rD : ∀ b j, b ≠ 78 → b ≠ 79 → b ≠ 74 → hg (hD g0 (hrd g0 (c + 1) J mn)) b j = hg g0 b j := fun b j z1 z2 z3 => hD_o _ _ _ _ z1 z2 (fun z => z3 z.1)
          have q61 : hg (hD g0 (hrd g0 (c + 1) J mn)) 86 61 = nI c := by rw [rD _ _ (by decide) (by decide) (by decide), r0 _ _ (by decide) (by decide) (by decide) (by decide), c2]
          rw [g242]
          simp only [cI, e168, e169, rI_i, b2i_0, hp, hq, hr, and_self, not_true, not_false_iff, if_true, if_false, q61, n30, hkk, bk, nI_1, nI_pred]
          generalize eg1 : sI (sI (sI (sI (hD g0 (hrd g0 (c + 1) J mn)) 125 c p0) 126 c p1) 127 c p2) 86 61 (nI (c + 1)) = g1
          have r1 : ∀ b j, b ≠ 86 → b ≠ 127 → b ≠ 126 → b ≠ 125 → hg g1 b j = hg (hD g0 (hrd g0 (c + 1) J mn)) b j := fun b j z1 z2 z3 z4 => by rw [← eg1, hg_ne _ z1, hg_ne _ z2, hg_ne _ z3, hg_ne _ z4]
          have r2 : ∀ b j, b ≠ 86 → b ≠ 127 → b ≠ 126 → b ≠ 125 → b ≠ 78 → b ≠ 79 → ¬ (b = 74 ∧ j = 8) → hg g1 b j = hg g0 b j := fun b j z1 z2 z3 z4 z5 z6 z7 => by rw [r1 b j z1 z2 z3 z4, hD_o _ _ _ _ z5 z6 z7]
          have e2 : hrd g1 (c + 1) J mn = hrd g0 (c + 1) J mn := hrd_congr (fun j => r2 _ _ (by decide) (by decide) (by decide) (by decide) (by decide) (by decide) (fun z => by omega)) (fun j => r2 _ _ (by decide) (by decide) (by decide) (by decide) (by decide) (by decide) (fun z => by omega)) (fun j => r2 _ _ (by decide) (by decide) (by decide) (by decide) (by decide) (by decide) (fun z => by omega)) (c + 1) J mn
          have q86 : ∀ j, j ≠ 61 → hg g1 86 j = hg h 86 j := fun j z => by rw [← eg1, hg_nj _ z, hg_ne _ (by decide), hg_ne _ (by decide), hg_ne _ (by decide), rD _ _ (by decide) (by decide) (by decide), r0 _ _ (by decide) (by decide) (by decide) (by decide)]
          have u5 : ∀ j, hg g1 125 j = if j = c then p0 else hg h 125 j := fun j => by
            rw [← eg1, hg_ne _ (by decide), hg_ne _ (by decide), hg_ne _ (by decide), hg_sI, rD _ _ (by decide) (by decide) (by decide), r0 _ _ (by decide) (by decide) (by decide) (by decide)]
            by_cases e : j = c
            · rw [if_pos ⟨rfl, e⟩, if_pos e]
            · rw [if_neg (fun z => e z.2), if_neg e]
          have u6 : ∀ j, hg g1 126 j = if j = c then p1 else hg h 126 j := fun j => by
            rw [← eg1, hg_ne _ (by decide), hg_ne _ (by decide), hg_sI, hg_ne _ (by decide), rD _ _ (by decide) (by decide) (by decide), r0 _ _ (by decide) (by decide) (by decide) (by decide)]
            by_cases e : j = c
            · rw [if_pos ⟨rfl, e⟩, if_pos e]
            · rw [if_neg (fun z => e z.2), if_neg e]
          have u7 : ∀ j, hg g1 127 j = if j = c then p2 else hg h 127 j := fun j => by
            rw [← eg1, hg_ne _ (by decide), hg_sI, hg_ne _ (by decide), hg_ne _ (by decide), rD _ _ (by decide) (by decide) (by decide), r0 _ _ (by decide) (by decide) (by decide) (by decide)]
            by_cases e : j = c
            · rw [if_pos ⟨rfl, e⟩, if_pos e]
            · rw [if_neg (fun z => e z.2), if_neg e]
          refine ⟨trivial, ⟨c + 1, J, mn, by omega, hJ, ?_, ?_, ?_, ?_, ?_, ?_, ?_, ?_, ?_⟩, ?_⟩
          · rw [r2 _ _ (by decide) (by decide) (by decide) (by decide) (by decide) (by decide) (by decide), s5]
          · rw [q86 _ (by decide), j2]
          · rw [r2 _ _ (by decide) (by decide) (by decide) (by decide) (by decide) (by decide) (by decide), s6]
          · rw [q86 _ (by decide), m2]
          · rw [r2 _ _ (by decide) (by decide) (by decide) (by decide) (by decide) (by decide) (by decide), s7]
          · rw [← eg1, hg_eq]
          · intro k hk
            rw [u5, u6, u7, r2 _ _ (by decide) (by decide) (by decide) (by decide) (by decide) (by decide) (fun z => by omega), r2 _ _ (by decide) (by decide) (by decide) (by decide) (by decide) (by decide) (fun z => by omega), r2 _ _ (by decide) (by decide) (by decide) (by decide) (by decide) (by decide) (fun z => by omega), t5, t6, t7]
            by_cases e : k = c
            · rw [if_pos e, if_pos e, if_pos e, if_pos e, if_pos e, if_pos e]
              exact ⟨rfl, rfl, rfl⟩
            · rw [if_neg e, if_neg e, if_neg e, if_neg e, if_neg e, if_neg e]
              exact ag k (by omega)
          · rw [e2, r1 _ _ (by decide) (by decide) (by decide) (by decide), hD_n]
          · intro k hk
            rw [e2, r1 _ _ (by decide) (by decide) (by decide) (by decide), r1 _ _ (by decide) (by decide) (by decide) (by decide), hD_78, hD_79, rwR_in (by omega), rwR_in (by omega)]
            exact ⟨rfl, rfl⟩
          · rw [← eg1]
            exact Wr_sI (Wr_sI (Wr_sI (Wr_sI (Wr_hD w0 m8) m8) m8) m8) m8
      · rw [if_neg (fun z => z hr), g242]
        simp only [cI, e168, e169, rI_i, b2i_0, hp, hq, hr, and_self, not_true, not_false_iff, if_false]
        exact ⟨trivial, iv', Wr_refl _ _⟩
    · rw [if_pos hq, g242]
      simp only [cI, e168, e169, rI_i, b2i_0, hp, hq, and_self, not_true, not_false_iff, if_true, if_false]
      exact ⟨trivial, iv', Wr_refl _ _⟩
  · rw [if_pos hp, g242]
    simp only [cI, e168, rI_i, b2i_0, hp, not_false_iff, if_true]
    exact ⟨trivial, iv', Wr_refl _ _⟩
