/-! the lines' commands once more: no cell is made -/
theorem d_why (X : XS) (h : H2) (iv : InvL h) (p0 p1 p2 p3 p4 : Int32) : EC X 112 [.ref 5, .int p0, .int p1, .int p2, .int p3, .int p4] h (fun v1 h1 => EC X 189 [.ref 86, .int p0, .int p1, .int p2, .int p3, .int p4] h1 (fun v2 h2 => v1 = v2 ∧ InvL h2 ∧ Wr [0, 2] h h2 ∧ h2.1 = h.1)) := by
  have iv' := iv
  obtain ⟨c, ad, ok⟩ := iv
  rw [g112]
  simp only [cI, e163, e162, rI_i, b2i_0]
  by_cases hd : (0 ≤ p0 ∧ p0 ≤ 3) ∧ (0 ≤ p1 ∧ p1 ≤ 3) ∧ (0 ≤ p2 ∧ p2 ≤ 99) ∧ (0 ≤ p3 ∧ p3 ≤ 4)
  · rw [if_neg (fun z => z hd)]
    by_cases hp : 0 ≤ p4 ∧ p4 ≤ 99
    · rw [if_pos (fun z => z hp), e3 X h _ c ad ok, rI_i, g189]
      simp only [cI, e186, e169, rI_i, b2i_0]
      rw [if_neg (fun z => z hd), if_neg (fun z => z hp), e187 X h _ c ad ok, rI_i]
      exact ⟨rfl, iv', Wr_refl _ _, rfl⟩
    · rw [if_neg (fun z => z hp), g189]
      simp only [cI, e186, e169, rI_i, b2i_0]
      rw [if_neg (fun z => z hd), if_pos hp]
      exact ⟨trivial, iv', Wr_refl _ _, trivial⟩
  · rw [if_pos hd, g189]
    simp only [cI, e186, e169, rI_i, b2i_0]
    rw [if_pos hd]
    exact ⟨trivial, iv', Wr_refl _ _, trivial⟩
theorem d_stops (X : XS) (h : H2) (iv : InvL h) (p0 p1 p2 p3 p4 : Int32) : EC X 111 [.ref 5, .int p0, .int p1, .int p2, .int p3, .int p4] h (fun v1 h1 => EC X 188 [.ref 86, .int p0, .int p1, .int p2, .int p3, .int p4] h1 (fun v2 h2 => v1 = v2 ∧ InvL h2 ∧ Wr [0, 2] h h2 ∧ h2.1 = h.1)) := by
  have iv' := iv
  obtain ⟨c, ad, ok⟩ := iv
  have hc := ok.1
  rw [g111]
  show EC X 112 _ _ _
  rw [g112]
  simp only [cI, e163, e162, rI_i, b2i_0]
  by_cases hd : (0 ≤ p0 ∧ p0 ≤ 3) ∧ (0 ≤ p1 ∧ p1 ≤ 3) ∧ (0 ≤ p2 ∧ p2 ≤ 99) ∧ (0 ≤ p3 ∧ p3 ≤ 4)
  · rw [if_neg (fun z => z hd)]
    by_cases hp : 0 ≤ p4 ∧ p4 ≤ 99
    · have md : ∀ R, EC X 188 [.ref 86, .int p0, .int p1, .int p2, .int p3, .int p4] h R ↔ if ¬ oN (frs (fun l => stB h l p0 p1 p2 p3 p4) c) = -9 then R (some (.int 1)) h else R (some (.int 0)) h := by
        intro R
        rw [g188]
        simp only [cI, e186, e169, rI_i, b2i_0]
        rw [if_neg (fun z => z hd), if_pos (fun z => z hp), e187 X h _ c ad ok, rI_i]
      rw [if_pos (fun z => z hp), e3 X h _ c ad ok, rI_i, if_pos (oN_2 _ c (by omega) (fun b hb => (frs_is hb).1))]
      by_cases q : oN (frs (fun l => stB h l p0 p1 p2 p3 p4) c) = -9
      · rw [if_neg (fun z => z q), md, if_neg (fun z => z q)]
        exact ⟨rfl, iv', Wr_refl _ _, rfl⟩
      · rw [if_pos q, md, if_pos q]
        exact ⟨rfl, iv', Wr_refl _ _, rfl⟩
    · rw [if_neg (fun z => z hp), if_neg (fun z => z trivial), g188]
      simp only [cI, e186, e169, rI_i, b2i_0]
      rw [if_neg (fun z => z hd), if_neg (fun z => z hp)]
      exact ⟨trivial, iv', Wr_refl _ _, trivial⟩
  · rw [if_pos hd, if_neg (fun z => z trivial), g188]
    simp only [cI, e186, e169, rI_i, b2i_0]
    rw [if_pos hd]
    exact ⟨trivial, iv', Wr_refl _ _, trivial⟩
theorem d_force (X : XS) (h : H2) (iv : InvL h) (p0 : Int32) : EC X 113 [.ref 5, .int p0] h (fun v1 h1 => EC X 190 [.ref 86, .int p0] h1 (fun v2 h2 => v1 = v2 ∧ InvL h2 ∧ Wr [0, 2] h h2 ∧ h2.1 = h.1)) := by
  have iv' := iv
  obtain ⟨c, ad, ok⟩ := iv
  rw [g113]
  simp only [cI, e162, rI_i, b2i_0]
  by_cases hp : 0 ≤ p0 ∧ p0 ≤ 99
  · rw [if_neg (fun z => z hp), e4 X h _ c ad ok, rI_i, g190]
    simp only [cI, e169, rI_i, b2i_0]
    rw [if_pos (fun z => z hp), e190 X h _ c ad ok]
    exact ⟨rfl, iv', Wr_refl _ _, rfl⟩
  · rw [if_pos hp, g190]
    simp only [cI, e169, rI_i, b2i_0]
    rw [if_neg (fun z => z hp)]
    exact ⟨trivial, iv', Wr_refl _ _, trivial⟩
theorem d_line (X : XS) (h : H2) (iv : InvL h) (p0 p1 : Int32) : EC X 110 [.ref 5, .int p0, .int p1] h (fun v1 h1 => EC X 183 [.ref 86, .int p0, .int p1] h1 (fun v2 h2 => v1 = v2 ∧ InvL h2 ∧ Wr [0, 2] h h2 ∧ h2.1 = h.1)) := by
  have iv' := iv
  obtain ⟨c, ad, ok⟩ := iv
  have ok' := ok
  obtain ⟨hc, c1, c2, ls, -⟩ := ok
  rw [g110]
  show EC X 2 _ _ _
  by_cases hp : 0 ≤ p0 ∧ p0 < nI c
  · obtain ⟨l, hl, rfl⟩ := (inR_lt (show c < 2 ^ 31 by omega)).mp hp
    have hk : (nI l).toNatClampNeg = l := nI_clamp (by omega)
    have bk := bI l 25 (show l < 25 by omega) (by omega)
    obtain ⟨l1, la1, la2, la3, -⟩ := ls l hl
    have okl := okL X.1 la1 la2
    have md : ∀ R, EC X 183 [.ref 86, .int (nI l), .int p1] h R ↔ (if p1 = 0 then R (some (.int (hg h 90 l))) h else if p1 = 1 then R (some (.int (hg h 91 l))) h else if p1 = 2 then R (some (.int (hg h 92 l))) h else if p1 = 3 then R (some (.int (hg h 93 l))) h else if p1 = 4 then R (some (.int (hg h 94 l))) h else if p1 = 5 then R (some (.int (hg h 95 l))) h else if p1 = 6 then R (some (.int (hg h 96 l))) h else R (some (.int (-2))) h) := by
      intro R
      rw [g183]
      show EC X 181 _ _ _ ↔ _
      rw [e181, rI_i, c2, b2i_t hp]
      dsimp only
      rw [if_pos n1_0, hk, if_neg bk, if_neg bk, if_neg bk, if_neg bk, if_neg bk, if_neg bk, if_neg bk]
    rw [e2_yes X h _ c ad ok' l hl, rO_r]
    simp only [okl, cond_true, la3 0 (by omega), la3 1 (by omega), la3 2 (by omega), la3 3 (by omega), la3 4 (by omega), la3 5 (by omega), la3 6 (by omega)]
    have fin : InvL h ∧ Wr [0, 2] h h ∧ h.1 = h.1 := ⟨iv', Wr_refl _ _, rfl⟩
    by_cases q0 : p1 = 0
    · rw [if_pos q0, md, if_pos q0]; exact ⟨rfl, fin⟩
    rw [if_neg q0]
    by_cases q1 : p1 = 1
    · rw [if_pos q1, md, if_neg q0, if_pos q1]; exact ⟨rfl, fin⟩
    rw [if_neg q1]
    by_cases q2 : p1 = 2
    · rw [if_pos q2, md, if_neg q0, if_neg q1, if_pos q2]; exact ⟨rfl, fin⟩
    rw [if_neg q2]
    by_cases q3 : p1 = 3
    · rw [if_pos q3, md, if_neg q0, if_neg q1, if_neg q2, if_pos q3]; exact ⟨rfl, fin⟩
    rw [if_neg q3]
    by_cases q4 : p1 = 4
    · rw [if_pos q4, md, if_neg q0, if_neg q1, if_neg q2, if_neg q3, if_pos q4]; exact ⟨rfl, fin⟩
    rw [if_neg q4]
    by_cases q5 : p1 = 5
    · rw [if_pos q5, md, if_neg q0, if_neg q1, if_neg q2, if_neg q3, if_neg q4, if_pos q5]; exact ⟨rfl, fin⟩
    rw [if_neg q5]
    by_cases q6 : p1 = 6
    · rw [if_pos q6, md, if_neg q0, if_neg q1, if_neg q2, if_neg q3, if_neg q4, if_neg q5, if_pos q6]; exact ⟨rfl, fin⟩
    rw [if_neg q6, md, if_neg q0, if_neg q1, if_neg q2, if_neg q3, if_neg q4, if_neg q5, if_neg q6]
    exact ⟨rfl, fin⟩
  · rw [e2_no X h _ c hc c1 p0 hp, rO_n]
    dsimp only
    rw [g183]
    show EC X 181 _ _ _
    rw [e181, rI_i, c2, b2i_f hp]
    dsimp only
    rw [if_neg (fun z => z rfl)]
    exact ⟨rfl, iv', Wr_refl _ _, rfl⟩
theorem d_strike (X : XS) (h : H2) (iv : InvL h) (p0 p1 : Int32) : EC X 109 [.ref 5, .int p0, .int p1] h (fun v1 h1 => EC X 182 [.ref 86, .int p0, .int p1] h1 (fun v2 h2 => v1 = v2 ∧ InvL h2 ∧ Wr [0, 2] h h2 ∧ h2.1 = h.1)) := by
  have iv' := iv
  obtain ⟨c, ad, ok⟩ := iv
  have ok' := ok
  obtain ⟨hc, c1, c2, ls, inc, sz, fz⟩ := ok
  rw [g109]
  show EC X 2 _ _ _
  by_cases hp : 0 ≤ p0 ∧ p0 < nI c
  · obtain ⟨l, hl, rfl⟩ := (inR_lt (show c < 2 ^ 31 by omega)).mp hp
    have hk : (nI l).toNatClampNeg = l := nI_clamp (by omega)
    have bk := bI l 25 (show l < 25 by omega) (by omega)
    obtain ⟨l1, la1, la2, la3, la4⟩ := ls l hl
    have okl := okL X.1 la1 la2
    rw [e2_yes X h _ c ad ok' l hl, rO_r]
    show EC X 162 _ _ _
    rw [e162, rI_i]
    dsimp only
    by_cases hq : 0 ≤ p1 ∧ p1 ≤ 99
    · rw [b2i_t hq, if_pos n1_0, okl]
      show EC X 182 _ _ _
      have q5 : hg (sI h (ad l) 6 p1) 86 5 = nI c := by rw [hg_ne _ (by omega), c2]
      have q96 : hg (sI h (ad l) 6 p1) 96 l = hg h 96 l := by rw [hg_ne _ (by omega)]
      rw [g182]
      show EC X 181 _ _ _
      rw [e181, rI_i, q5, b2i_t hp]
      dsimp only
      rw [if_pos n1_0]
      show EC X 169 _ _ _
      rw [e169, rI_i, b2i_t hq]
      dsimp only
      rw [if_pos n1_0, hk, if_neg bk, if_neg bk, q96]
      refine ⟨?_, ⟨c, ad, hc, ?_, ?_, ?_, inc, sz, ?_⟩, ?_⟩
      · rw [la3 6 (by omega)]
      · rw [hg_ne _ (by decide), hg_ne _ (by omega), c1]
      · rw [hg_ne _ (by decide), q5]
      · intro m hm
        obtain ⟨m1, ma1, ma2, ma3, ma4⟩ := ls m hm
        refine ⟨m1, ma1, ma2, ?_, ?_⟩
        · intro i hi
          by_cases e : m = l
          · subst e
            by_cases e6 : i = 6
            · subst e6
              rw [hg_ne _ (by omega), hg_eq, hg_eq]
            · rw [hg_ne _ (by omega), hg_nj _ e6, hg_ne _ (show 90 + i ≠ 96 by omega), hg_ne _ (by omega)]
              exact ma3 i hi
          · have na : ad m ≠ ad l := by
              rcases Nat.lt_or_gt_of_ne e with q | q
              · have := inc m l q hl; omega
              · have := inc l m q hm; omega
            rw [hg_ne _ (show ad m ≠ 96 by omega), hg_ne _ na, hg_sI _ 96, if_neg (fun z => e z.2), hg_ne _ (by omega)]
            exact ma3 i hi
        · rw [hg_ne _ (by decide), hg_ne _ (by omega)]
          exact ma4
      · intro b hb i
        have hb' : h.1 ≤ b := hb
        rw [hg_ne _ (by omega), hg_ne _ (by omega)]
        exact fz b hb' i
      · exact ⟨Wr_sI (Wr_sI (Wr_refl _ _) (by rw [com137 la1]; decide)) (show (2 : Nat) ∈ _ by decide), rfl⟩
    · rw [b2i_f hq, if_neg (fun z => z rfl), g182]
      show EC X 181 _ _ _
      rw [e181, rI_i, c2, b2i_t hp]
      dsimp only
      rw [if_pos n1_0]
      show EC X 169 _ _ _
      rw [e169, rI_i, b2i_f hq]
      dsimp only
      rw [if_neg (fun z => z rfl)]
      exact ⟨rfl, iv', Wr_refl _ _, rfl⟩
  · rw [e2_no X h _ c hc c1 p0 hp, rO_n]
    dsimp only
    rw [g182]
    show EC X 181 _ _ _
    rw [e181, rI_i, c2, b2i_f hp]
    dsimp only
    rw [if_neg (fun z => z rfl)]
    exact ⟨rfl, iv', Wr_refl _ _, rfl⟩
