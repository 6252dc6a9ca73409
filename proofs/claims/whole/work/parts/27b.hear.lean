/-! hearing: both sides come to dayF -/
def rwR (n : Nat) (f g : Nat → Int32) : Nat → Int32 := fun j => if j < n then f j else g j
def hD (h : H2) (s : SC) : H2 := sI (sR (sR h 78 (rwR 30 s.1 (hg h 78))) 79 (rwR 30 s.2.1 (hg h 79))) 74 8 (nI s.2.2)
def hM (h : H2) (c : Nat) (s : SC) : H2 := sR (sR h 128 (rwR c s.1 (hg h 128))) 129 (rwR c s.2.1 (hg h 129))
theorem hD_o (h : H2) (s : SC) (b j : Nat) (h1 : b ≠ 78) (h2 : b ≠ 79) (h3 : ¬ (b = 74 ∧ j = 8)) : hg (hD h s) b j = hg h b j := by
  unfold hD
  rw [hg_sI, if_neg h3, hg_sRn _ h2, hg_sRn _ h1]
theorem hD_78 (h : H2) (s : SC) (j : Nat) : hg (hD h s) 78 j = rwR 30 s.1 (hg h 78) j := by
  unfold hD
  rw [hg_ne _ (by decide), hg_sRn _ (by decide), hg_sRe]
theorem hD_79 (h : H2) (s : SC) (j : Nat) : hg (hD h s) 79 j = rwR 30 s.2.1 (hg h 79) j := by
  unfold hD
  rw [hg_ne _ (by decide), hg_sRe]
theorem hD_n (h : H2) (s : SC) : hg (hD h s) 74 8 = nI s.2.2 := by
  unfold hD
  rw [hg_eq]
theorem hM_o (h : H2) (c : Nat) (s : SC) (b j : Nat) (h1 : b ≠ 128) (h2 : b ≠ 129) : hg (hM h c s) b j = hg h b j := by
  unfold hM
  rw [hg_sRn _ h2, hg_sRn _ h1]
theorem hM_128 (h : H2) (c : Nat) (s : SC) (j : Nat) : hg (hM h c s) 128 j = rwR c s.1 (hg h 128) j := by
  unfold hM
  rw [hg_sRn _ (by decide), hg_sRe]
theorem hM_129 (h : H2) (c : Nat) (s : SC) (j : Nat) : hg (hM h c s) 129 j = rwR c s.2.1 (hg h 129) j := by
  unfold hM
  rw [hg_sRe]
theorem rwR_in {n j : Nat} {f g : Nat → Int32} (h : j < n) : rwR n f g j = f j := if_pos h
theorem rwR_out {n j : Nat} {f g : Nat → Int32} (h : ¬ j < n) : rwR n f g j = g j := if_neg h
theorem hD_step (h : H2) (s : SC) (b : Nat) (d j : Int32) (hb : b < 30) : sI (sI (sI (hD h s) 78 b d) 79 b j) 74 8 (nI s.2.2 + 1) = hD h (hearS s b d j) := by
  refine H2_ext ?_ ?_ ?_ <;> try rfl
  intro a i
  by_cases e1 : a = 74 ∧ i = 8
  · obtain ⟨rfl, rfl⟩ := e1
    rw [hg_eq, hD_n, nI_1]
    rfl
  · rw [hg_sI, if_neg e1]
    by_cases e2 : a = 79
    · subst e2
      rw [hg_sI, hD_79]
      by_cases e3 : i = b
      · subst e3
        rw [if_pos ⟨rfl, rfl⟩, rwR_in hb]
        exact (if_pos rfl).symm
      · rw [if_neg (fun z => e3 z.2), hg_ne _ (by decide), hD_79]
        unfold rwR
        by_cases e4 : i < 30
        · rw [if_pos e4, if_pos e4]
          exact (if_neg e3).symm
        · rw [if_neg e4, if_neg e4]
    · rw [hg_ne _ e2]
      by_cases e5 : a = 78
      · subst e5
        rw [hg_sI]
        by_cases e3 : i = b
        · subst e3
          rw [if_pos ⟨rfl, rfl⟩, hD_78, rwR_in hb]
          exact (if_pos rfl).symm
        · rw [if_neg (fun z => e3 z.2), hD_78, hD_78]
          unfold rwR
          by_cases e4 : i < 30
          · rw [if_pos e4, if_pos e4]
            exact (if_neg e3).symm
          · rw [if_neg e4, if_neg e4]
      · rw [hg_ne _ e5, hD_o _ _ _ _ e5 e2 e1, hD_o _ _ _ _ e5 e2 e1]
theorem hM_step (h : H2) (c : Nat) (s : SC) (b : Nat) (d j : Int32) (hb : b < c) : sI (sI (hM h c s) 128 b d) 129 b j = hM h c (hearS s b d j) := by
  refine H2_ext ?_ ?_ ?_ <;> try rfl
  intro a i
  by_cases e2 : a = 129
  · subst e2
    rw [hg_sI, hM_129]
    by_cases e3 : i = b
    · subst e3
      rw [if_pos ⟨rfl, rfl⟩, rwR_in hb]
      exact (if_pos rfl).symm
    · rw [if_neg (fun z => e3 z.2), hg_ne _ (by decide), hM_129]
      unfold rwR
      by_cases e4 : i < c
      · rw [if_pos e4, if_pos e4]
        exact (if_neg e3).symm
      · rw [if_neg e4, if_neg e4]
  · rw [hg_ne _ e2]
    by_cases e5 : a = 128
    · subst e5
      rw [hg_sI]
      by_cases e3 : i = b
      · subst e3
        rw [if_pos ⟨rfl, rfl⟩, hM_128, rwR_in hb]
        exact (if_pos rfl).symm
      · rw [if_neg (fun z => e3 z.2), hM_128, hM_128]
        unfold rwR
        by_cases e4 : i < c
        · rw [if_pos e4, if_pos e4]
          exact (if_neg e3).symm
        · rw [if_neg e4, if_neg e4]
    · rw [hg_ne _ e5, hM_o _ _ _ _ _ e5 e2, hM_o _ _ _ _ _ e5 e2]
theorem uh_le (c : Nat) (on : Nat → Int32) : uh c on ≤ c := cnt_le _ _
/-- one sitting -/
theorem e32 (X : XS) (h : H2) (Q : Option Value → H2 → Prop) (c : Nat) (hc : c ≤ 30) (ec : hg h 74 7 = nI c) (mn : Int32) (em : hg h 74 6 = mn) (d j : Int32) (hd : ¬ d = -9) (s : SC) :
    EC X 32 [.ref 74, .int d, .int j] (hD h s) Q ↔ Q none (hD h (sitF c (hg h 75) (hg h 76) (hg h 77) d j 30 s mn)) := by
  have nx : ∀ (s : SC) (R : Option Value → H2 → Prop) (left : Int32), EC X 33 [.ref 74, .int d, .int left] (hD h s) R ↔ R (some (.int (oN (nxC s.1 (hg h 75) (hg h 76) (hg h 77) d left c)))) (hD h s) := by
    intro s R left
    refine e33 X (hD h s) R c hc (by rw [hD_o _ _ _ _ (by decide) (by decide) (by decide), ec]) _ _ _ _ ?_ ?_ ?_ ?_ d left
    · intro k hk
      rw [hD_78, rwR_in (by omega)]
    · intro k hk
      rw [hD_o _ _ _ _ (by decide) (by decide) (fun z => by omega)]
    · intro k hk
      rw [hD_o _ _ _ _ (by decide) (by decide) (fun z => by omega)]
    · intro k hk
      rw [hD_o _ _ _ _ (by decide) (by decide) (fun z => by omega)]
  have e30 : (30 : Int32) = nI 30 := by decide
  have key : ∀ f k (s : SC) (left : Int32), k + f = 30 → uh c s.1 ≤ f → (E X 32 16 [some (.ref 74), some (.int d), some (.int j), some (.int left), some (.int (oN (nxC s.1 (hg h 75) (hg h 76) (hg h 77) d left c))), some (.int (nI k))] [] (hD h s) Q ↔ Q none (hD h (sitF c (hg h 75) (hg h 76) (hg h 77) d j f s left))) := by
    intro f
    induction f with
    | zero =>
      intro k s left hk hu
      have : k = 30 := by omega
      subst this
      rw [g32_16, e30, if_pos (nI_le (Nat.le_refl _) (by omega))]
      exact Iff.rfl
    | succ f ih =>
      intro k s left hk hu
      rw [g32_16, if_neg (by rw [e30]; exact nI_ge (by omega) (by omega))]
      unfold sitF
      cases hw : nxC s.1 (hg h 75) (hg h 76) (hg h 77) d left c with
      | none =>
        rw [if_pos (show oN none = -9 from rfl)]
      | some b =>
        obtain ⟨hb, hcn⟩ := nxC_can hw
        have hkb : (oN (some b)).toNatClampNeg = b := nI_clamp (n := b) (by omega)
        have bb : ¬ (oN (some b) < 0 ∨ 30 ≤ b) := bI b 30 (by omega) (by omega)
        have u1 := uh_hear (j := j) hb (of_decide_eq_true hcn).2.1 hd
        rw [if_neg (show ¬ oN (some b) = -9 from nI_m9 (by omega)), hkb, if_neg bb, if_neg bb, if_neg bb, hD_n, hD_step h s b d j (by omega), hD_o _ _ _ _ (by decide) (by decide) (fun z => by omega)]
        show EC X 33 _ _ _ ↔ _
        rw [nx, rI_i]
        dsimp only
        rw [nI_1]
        exact ih (k + 1) (hearS s b d j) (left - hg h 75 b) (by omega) (by omega)
  rw [g32]
  show EC X 33 _ _ _ ↔ _
  rw [nx, rI_i, hD_o _ _ _ _ (by decide) (by decide) (by decide), em]
  exact key 30 0 s mn (by omega) (Nat.le_trans (uh_le _ _) hc)
theorem e31 (X : XS) (h : H2) (Q : Option Value → H2 → Prop) (c J : Nat) (hc : c ≤ 30) (hJ : J ≤ 4) (ec : hg h 74 7 = nI c) (eJ : hg h 74 5 = nI J) (mn : Int32) (em : hg h 74 6 = mn) :
    EC X 31 [.ref 74] h Q ↔ Q none (hD h (dayF c J (hg h 75) (hg h 76) (hg h 77) mn 100)) := by
  have e100 : (100 : Int32) = nI 100 := by decide
  have key : ∀ i d u, d + i = 100 → (E X 31 25 [some (.ref 74), some (.int (nI d)), u] [] (hD h (dayF c J (hg h 75) (hg h 76) (hg h 77) mn d)) Q ↔ Q none (hD h (dayF c J (hg h 75) (hg h 76) (hg h 77) mn 100))) := by
    intro i
    induction i with
    | zero =>
      intro d u hd
      have : d = 100 := by omega
      subst this
      rw [g31_25u, e100, if_pos (nI_le (Nat.le_refl _) (by omega))]
    | succ i ih =>
      intro d u hd
      have inv := day_inv (c := c) (J := J) (len := hg h 75) (day := hg h 76) (rank := hg h 77) (mn := mn) d (by omega)
      have hn : (dayF c J (hg h 75) (hg h 76) (hg h 77) mn d).2.2 ≤ c := by omega
      rw [g31_25u, if_neg (by rw [e100]; exact nI_ge (by omega) (by omega)), hD_n, hD_o _ _ _ _ (by decide) (by decide) (by decide), ec, ite_iff (nI_leI (by omega) (by omega))]
      by_cases c1 : c ≤ (dayF c J (hg h 75) (hg h 76) (hg h 77) mn d).2.2
      · rw [if_pos c1]
        have h0 : uh c (dayF c J (hg h 75) (hg h 76) (hg h 77) mn d).1 = 0 := by omega
        have := day_id h0 (i + 1)
        rw [hd] at this
        rw [this]
      · rw [if_neg c1]
        have jk : ∀ m j, j + m = J → (E X 31 44 [some (.ref 74), some (.int (nI d)), some (.int (nI j))] [] (hD h (judF c (hg h 75) (hg h 76) (hg h 77) mn d (dayF c J (hg h 75) (hg h 76) (hg h 77) mn d) j)) Q ↔ Q none (hD h (dayF c J (hg h 75) (hg h 76) (hg h 77) mn 100))) := by
          intro m
          induction m with
          | zero =>
            intro j hj
            have : j = J := by omega
            subst this
            rw [g31_44, hD_o _ _ _ _ (by decide) (by decide) (by decide), eJ, if_pos (nI_le (Nat.le_refl _) (by omega)), nI_1]
            exact ih (d + 1) _ (by omega)
          | succ m ihm =>
            intro j hj
            rw [g31_44, hD_o _ _ _ _ (by decide) (by decide) (by decide), eJ, if_neg (nI_ge (by omega) (by omega))]
            show EC X 32 _ _ _ ↔ _
            rw [e32 X h _ c hc ec mn em (nI d) (nI j) (nI_m9 (by omega)), rV_n, nI_1]
            exact ihm (j + 1) (by omega)
        exact jk J 0 (by omega)
  rw [g31]
  show EC X 270 _ _ _ ↔ _
  rw [e270 X h _ 78 30 (by decide) (by decide) rfl (by decide), rV_n]
  show EC X 270 _ _ _ ↔ _
  rw [e270 X _ _ 79 30 (by decide) (by decide) rfl (by decide), rV_n]
  have : sI (sF (sF h 78 0 30 (-9)) 79 0 30 (-9)) 74 8 0 = hD h (dayF c J (hg h 75) (hg h 76) (hg h 77) mn 0) := by
    refine H2_ext ?_ ?_ ?_ <;> try rfl
    intro a i
    by_cases e1 : a = 74 ∧ i = 8
    · obtain ⟨rfl, rfl⟩ := e1
      rw [hg_eq, hD_n]
      rfl
    · rw [hg_sI, if_neg e1]
      by_cases e2 : a = 79
      · subst e2
        rw [hg_sF, hD_79]
        by_cases e3 : i < 30
        · rw [if_pos ⟨rfl, by omega, by omega⟩, rwR_in e3]
          rfl
        · rw [if_neg (fun z => by omega), rwR_out e3, hg_sFn _ (by decide)]
      · rw [hg_sFn _ e2]
        by_cases e5 : a = 78
        · subst e5
          rw [hg_sF, hD_78]
          by_cases e3 : i < 30
          · rw [if_pos ⟨rfl, by omega, by omega⟩, rwR_in e3]
            rfl
          · rw [if_neg (fun z => by omega), rwR_out e3]
        · rw [hg_sFn _ e5, hD_o _ _ _ _ e5 e2 e1]
  dsimp only
  rw [this]
  exact key 100 0 _ (by omega)
theorem e240 (X : XS) (h : H2) (Q : Option Value → H2 → Prop) (c J : Nat) (hc : c ≤ 30) (hJ : J ≤ 4) (ec : hg h 86 61 = nI c) (eJ : hg h 86 59 = nI J) (mn : Int32) (em : hg h 86 60 = mn) (len day rank : Nat → Int32) (r75 : ∀ k, k < c → hg h 125 k = len k) (r76 : ∀ k, k < c → hg h 126 k = day k) (r77 : ∀ k, k < c → hg h 127 k = rank k) :
    EC X 240 [.ref 86] h Q ↔ Q (some (.int (nI (dayF c J len day rank mn 100).2.2))) (hM h c (dayF c J len day rank mn 100)) := by
  have e99 : (99 : Int32) = nI 99 := by decide
  have r86 : ∀ s j, hg (hM h c s) 86 j = hg h 86 j := fun s j => hM_o _ _ _ _ _ (by decide) (by decide)
  have nx : ∀ (s : SC) (R : Option Value → H2 → Prop) (d left : Int32), EC X 239 [.ref 86, .int d, .int left] (hM h c s) R ↔ R (some (.int (oN (nxC s.1 len day rank d left c)))) (hM h c s) := by
    intro s R d left
    refine e239 X (hM h c s) R c hc (by rw [r86, ec]) _ _ _ _ ?_ ?_ ?_ ?_ d left
    · intro k hk
      rw [hM_128, rwR_in (by omega)]
    · intro k hk
      rw [hM_o _ _ _ _ _ (by decide) (by decide), r75 k hk]
    · intro k hk
      rw [hM_o _ _ _ _ _ (by decide) (by decide), r76 k hk]
    · intro k hk
      rw [hM_o _ _ _ _ _ (by decide) (by decide), r77 k hk]
  have sit : ∀ (d : Nat), d < 100 → ∀ j : Nat, ∀ f (s : SC) (left : Int32) (R : Prop), uh c s.1 ≤ f → s.2.2 + uh c s.1 = c → (∀ s2 : SC, s2 = sitF c len day rank (nI d) (nI j) f s left → ∀ u v, (E X 240 44 [some (.ref 86), some (.int (nI s2.2.2)), some (.int (nI d)), some (.int (nI (j + 1))), u, v] [] (hM h c s2) Q ↔ R)) →
      (E X 240 67 [some (.ref 86), some (.int (nI s.2.2)), some (.int (nI d)), some (.int (nI j)), some (.int left), some (.int (oN (nxC s.1 len day rank (nI d) left c)))] [] (hM h c s) Q ↔ R) := by
    intro d hd j f
    induction f with
    | zero =>
      intro s left R hu hs hR
      rw [g240_67, nx_none (by omega), if_pos (show oN none = -9 from rfl), nI_1]
      exact hR s rfl _ _
    | succ f ih =>
      intro s left R hu hs hR
      rw [g240_67]
      cases hw : nxC s.1 len day rank (nI d) left c with
      | none =>
        rw [if_pos (show oN none = -9 from rfl), nI_1]
        refine hR s ?_ _ _
        unfold sitF
        rw [hw]
      | some b =>
        obtain ⟨hb, hcn⟩ := nxC_can hw
        have hkb : (oN (some b)).toNatClampNeg = b := nI_clamp (n := b) (by omega)
        have bb : ¬ (oN (some b) < 0 ∨ 30 ≤ b) := bI b 30 (by omega) (by omega)
        have u1 := uh_hear (j := nI j) hb (of_decide_eq_true hcn).2.1 (nI_m9 (j := d) (by omega))
        rw [if_neg (show ¬ oN (some b) = -9 from nI_m9 (by omega)), hkb, if_neg bb, if_neg bb, if_neg bb, hM_step h c s b _ _ hb, hM_o _ _ _ _ _ (by decide) (by decide), r75 b hb, nI_1]
        show EC X 239 _ _ _ ↔ _
        rw [nx, rI_i]
        refine ih (hearS s b (nI d) (nI j)) (left - len b) R (by omega) (by show s.2.2 + 1 + _ = c; omega) ?_
        intro s2 hs2 u v
        refine hR s2 ?_ u v
        rw [hs2]
        show _ = sitF c len day rank (nI d) (nI j) (f + 1) s left
        conv => rhs; unfold sitF
        rw [hw]
  have key : ∀ i d u v w, d + i = 100 → (E X 240 36 [some (.ref 86), some (.int (nI (dayF c J len day rank mn d).2.2)), some (.int (nI d)), u, v, w] [] (hM h c (dayF c J len day rank mn d)) Q ↔ Q (some (.int (nI (dayF c J len day rank mn 100).2.2))) (hM h c (dayF c J len day rank mn 100))) := by
    intro i
    induction i with
    | zero =>
      intro d u v w hd
      have : d = 100 := by omega
      subst this
      rw [g240_36u, e99, if_pos (nI_lt (by omega) (by omega))]
    | succ i ih =>
      intro d u v w hd
      rw [g240_36u, e99, if_neg (nI_nlt (by omega) (by omega))]
      have inv := day_inv (c := c) (J := J) (len := len) (day := day) (rank := rank) (mn := mn) d (by omega)
      have jk : ∀ m j v w, j + m = J → (E X 240 44 [some (.ref 86), some (.int (nI (judF c len day rank mn d (dayF c J len day rank mn d) j).2.2)), some (.int (nI d)), some (.int (nI j)), v, w] [] (hM h c (judF c len day rank mn d (dayF c J len day rank mn d) j)) Q ↔ Q (some (.int (nI (dayF c J len day rank mn 100).2.2))) (hM h c (dayF c J len day rank mn 100))) := by
        intro m
        induction m with
        | zero =>
          intro j v w hj
          have : j = J := by omega
          subst this
          rw [g240_44u, r86, eJ, if_pos (nI_le (Nat.le_refl _) (by omega)), nI_1]
          exact ih (d + 1) _ _ _ (by omega)
        | succ m ihm =>
          intro j v w hj
          rw [g240_44u, r86, r86, eJ, em, if_neg (nI_ge (by omega) (by omega))]
          show EC X 239 _ _ _ ↔ _
          rw [nx, rI_i]
          refine sit d (by omega) j 30 _ mn _ (Nat.le_trans (uh_le _ _) hc) (jud_inv (by omega) inv j) ?_
          intro s2 hs2 u v
          have : s2 = judF c len day rank mn d (dayF c J len day rank mn d) (j + 1) := hs2
          rw [this]
          exact ihm (j + 1) u v (by omega)
      exact jk J 0 _ _ (by omega)
  have init : ∀ i k, k + i = c → (E X 240 2 [some (.ref 86), some (.int (nI k)), none, none, none, none] [] (hM h k (dayF c J len day rank mn 0)) Q ↔ Q (some (.int (nI (dayF c J len day rank mn 100).2.2))) (hM h c (dayF c J len day rank mn 100))) := by
    intro i
    induction i with
    | zero =>
      intro k hk
      have : k = c := by omega
      subst this
      rw [g240_2, r86, ec, if_pos (nI_le (Nat.le_refl _) (by omega))]
      exact key 100 0 _ _ _ (by omega)
    | succ i ih =>
      intro k hk
      have hkk : (nI k).toNatClampNeg = k := nI_clamp (by omega)
      have b3 := bI k 30 (show k < 30 by omega) (by omega)
      rw [g240_2, hM_o _ _ _ _ _ (by decide) (by decide), ec, if_neg (nI_ge (by omega) (by omega)), hkk, if_neg b3, if_neg b3, nI_1]
      have : sI (sI (hM h k (dayF c J len day rank mn 0)) 128 k (-9)) 129 k (-9) = hM h (k + 1) (dayF c J len day rank mn 0) := by
        refine H2_ext ?_ ?_ ?_ <;> try rfl
        intro a i
        by_cases e2 : a = 129
        · subst e2
          rw [hg_sI, hM_129]
          by_cases e3 : i = k
          · subst e3
            rw [if_pos ⟨rfl, rfl⟩, rwR_in (by omega)]
            rfl
          · rw [if_neg (fun z => e3 z.2), hg_ne _ (by decide), hM_129]
            unfold rwR
            by_cases e4 : i < k
            · rw [if_pos e4, if_pos (by omega)]
            · rw [if_neg e4, if_neg (by omega)]
        · rw [hg_ne _ e2]
          by_cases e5 : a = 128
          · subst e5
            rw [hg_sI]
            by_cases e3 : i = k
            · subst e3
              rw [if_pos ⟨rfl, rfl⟩, hM_128, rwR_in (by omega)]
              rfl
            · rw [if_neg (fun z => e3 z.2), hM_128, hM_128]
              unfold rwR
              by_cases e4 : i < k
              · rw [if_pos e4, if_pos (by omega)]
              · rw [if_neg e4, if_neg (by omega)]
          · rw [hg_ne _ e5, hM_o _ _ _ _ _ e5 e2, hM_o _ _ _ _ _ e5 e2]
      rw [this]
      exact ih (k + 1) (by omega)
  have i0 := init c 0 (by omega)
  have : hM h 0 (dayF c J len day rank mn 0) = h := by
    refine H2_ext ?_ ?_ ?_ <;> try rfl
    intro a i
    by_cases e2 : a = 129
    · subst e2
      rw [hM_129, rwR_out (by omega)]
    · by_cases e5 : a = 128
      · subst e5
        rw [hM_128, rwR_out (by omega)]
      · rw [hM_o _ _ _ _ _ e5 e2]
  rw [this] at i0
  rw [g240]
  exact i0
