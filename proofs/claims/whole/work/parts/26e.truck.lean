/-! trucks come -/
theorem e48 (X : XS) (h : H2) (Q : Option Value → H2 → Prop) (A T n s : Nat) (p1 : Int32) (hA : A ≤ 8) (hT : T < 12) (n2 : n ≤ 12) (s2 : s ≤ 11) (eA : hg h 34 7 = nI A) (eT : hg h 34 8 = nI T) (oa : ∀ a, a < A → AgOk h a) (ez : hg h 61 T = 0) (g : H2) (eg : g = sI (sI (sI (sC h (46 + T) 14 0 0 n) 58 T (nI n)) 59 T (nI s)) 60 T p1) :
    EC X 48 [.ref 34, .int (nI s), .int p1, .ref 14, .int (nI n)] h Q ↔ Q (some (.int (nI T))) (sI (sI g 61 T (mtS g T A)) 34 8 (nI (T + 1))) := by
  have hk : (nI T).toNatClampNeg = T := nI_clamp (by omega)
  have hn : (nI n).toNatClampNeg = n := nI_clamp (by omega)
  have n8 : ¬ nI T = 12 := by
    have e : (12 : Int32) = nI 12 := by decide
    rw [e, nI_eq (by omega) (by omega)]
    omega
  have c0 : (0 : Int32).toNatClampNeg = 0 := by decide
  have z0 : ¬ (0 : Int32) < 0 := by decide
  have bb : ¬ (((0 : Int32) < 0 ∨ (0 : Int32) < 0 ∨ nI n < 0) ∨ 60 < 0 + n ∨ (0, 12).2 < 0 + n) := by
    rintro ((z | z | z) | z | z)
    · exact z0 z
    · exact z0 z
    · exact nI_pos (by omega) z
    · omega
    · have : 12 < 0 + n := z
      omega
  have o5 : (Nat.ble 5 (46 + T) && true) = true := by rw [show Nat.ble 5 (46 + T) = true from Nat.ble_eq.mpr (by omega)]; rfl
  rw [g48]
  simp only [eT, n8, not_false_iff, if_true, hk, bI T 12 hT (by omega), if_false, rc45 hT, oel_s', ok_of X.1 _ (46 + T) 12 (shQ X.1 hT) (by omega), o5, Bool.and_self, cond_true, shQ X.1 hT, c0, hn]
  rw [if_neg bb, ← eg]
  have r58 : hg g 58 T = nI n := by rw [eg, hg_ne _ (by decide), hg_ne _ (by decide), hg_eq]
  have r59 : hg g 59 T = nI s := by rw [eg, hg_ne _ (by decide), hg_eq]
  have rd : ∀ b j, b ≠ 60 → b ≠ 59 → b ≠ 58 → b ≠ 46 + T → hg g b j = hg h b j := fun b j z1 z2 z3 z4 => by rw [eg, hg_ne _ z1, hg_ne _ z2, hg_ne _ z3, hg_sCn _ z4]
  have key : ∀ i k, k + i = A → (E X 48 61 [some (.ref 34), some (.int (nI s)), some (.int p1), some (.ref 14), some (.int (nI n)), some (.int (nI T)), some (.int (nI k))] [] (sI g 61 T (mtS g T k)) Q ↔ Q (some (.int (nI T))) (sI (sI g 61 T (mtS g T A)) 34 8 (nI (T + 1)))) := by
    intro i
    induction i with
    | zero =>
      intro k hki
      have : k = A := by omega
      subst this
      rw [g48_61, hg_ne _ (by decide), rd _ _ (by decide) (by decide) (by decide) (by omega), eA, if_pos (nI_le (Nat.le_refl _) (by omega)), hg_ne _ (by decide), rd _ _ (by decide) (by decide) (by decide) (by omega), eT, nI_1]
    | succ i ih =>
      intro k hki
      obtain ⟨m, m1, m2, em, -, -⟩ := oa k (by omega)
      have r2 : ∀ b j, b ≠ 61 → hg (sI g 61 T (mtS g T k)) b j = hg g b j := fun b j z => hg_ne _ z
      have mm : mt (sI g 61 T (mtS g T k)) k T = mt g k T := mt_congr (fun j => r2 _ _ (by omega)) (fun j => r2 _ _ (by omega)) (r2 _ _ (by omega)) (r2 _ _ (by omega)) (r2 _ _ (by omega))
      rw [← ih (k + 1) (by omega), g48_61, r2 _ _ (by decide), rd _ _ (by decide) (by decide) (by decide) (by omega), eA, if_neg (nI_ge (by omega) (by omega))]
      show EC X 50 _ _ _ ↔ _
      rw [e50 X _ _ k T m n s (by omega) hT m1 m2 (by rw [r2 _ _ (by decide), rd _ _ (by decide) (by decide) (by decide) (by omega), em]) n2 (by rw [r2 _ _ (by decide), r58]) s2 (by rw [r2 _ _ (by decide), r59]), mm]
      have e3 : mtS g T (k + 1) = if mt g k T = true then mtS g T k ||| bit k else mtS g T k := rfl
      by_cases c : mt g k T = true
      · rw [if_pos c, rV_n, nI_1, sI_sI, hg_eq, e3, if_pos c]
      · rw [if_neg c, rV_n, nI_1, e3, if_neg c]
  have := key A 0 (by omega)
  rw [sI_self' (show hg g 61 T = mtS g T 0 by rw [rd _ _ (by decide) (by decide) (by decide) (by omega), ez]; rfl)] at this
  exact this
theorem e204 (X : XS) (h : H2) (Q : Option Value → H2 → Prop) (T s n : Nat) (hT : T < 12) (n2 : n ≤ 12) (hs : s + n ≤ 240) (eT : hg h 86 34 = nI T) (d1 d2 d3 d4 d5 d7 : Int32) :
    E X 204 134 [some (.ref 86), some (.int d1), some (.int d2), some (.int d3), some (.int d4), some (.int d5), some (.int (nI n)), some (.int d7), some (.int (nI s)), some (.int 0)] [] h Q ↔ Q (some (.int (nI T))) (sI (sP h 114 (12 * T) n (fun j => hg h 89 (s + j))) 86 34 (nI (T + 1))) := by
  have e12 : (12 : Int32) = nI 12 := by decide
  have key : ∀ i k, k + i = n → (E X 204 134 [some (.ref 86), some (.int d1), some (.int d2), some (.int d3), some (.int d4), some (.int d5), some (.int (nI n)), some (.int d7), some (.int (nI s)), some (.int (nI k))] [] (sP h 114 (12 * T) k (fun j => hg h 89 (s + j))) Q ↔ Q (some (.int (nI T))) (sI (sP h 114 (12 * T) n (fun j => hg h 89 (s + j))) 86 34 (nI (T + 1)))) := by
    intro i
    induction i with
    | zero =>
      intro k hk
      have : k = n := by omega
      subst this
      rw [g204_134, if_pos (nI_le (Nat.le_refl _) (by omega)), hg_sPn _ (by decide), eT, nI_1, nI_pred]
    | succ i ih =>
      intro k hk
      have k1 : (nI (s + k)).toNatClampNeg = s + k := nI_clamp (by omega)
      have k2 : (nI (12 * T + k)).toNatClampNeg = 12 * T + k := nI_clamp (by omega)
      rw [← ih (k + 1) (by omega), g204_134, if_neg (nI_ge (by omega) (by omega)), hg_sPn _ (show 86 ≠ 114 by decide), eT, hg_sPn _ (show 89 ≠ 114 by decide), nI_add, k1, if_neg (bI (s + k) 240 (by omega) (by omega)), e12, pk_mul, nI_add, k2, if_neg (bI (12 * T + k) 144 (by omega) (by omega)), nI_1, sP_succ]
  have := key n 0 (by omega)
  rw [sP_0] at this
  exact this
theorem AgOk_r {h h' : H2} {a : Nat} (ha : a < 8) (o : AgOk h a) (hr : ∀ b j, b = 44 ∨ b = 109 ∨ b = 110 ∨ (36 ≤ b ∧ b < 44) → hg h' b j = hg h b j) : AgOk h' a := by
  obtain ⟨m, m1, m2, em, em', ra⟩ := o
  refine ⟨m, m1, m2, ?_, ?_, ?_⟩
  · rw [hr _ _ (by omega), em]
  · rw [hr _ _ (by omega), em']
  · intro j hj
    rw [hr _ _ (by omega), hr _ _ (by omega)]
    exact ra j hj
theorem truck_fin (h : H2) (iv : InvHN h) (A T k a n s : Nat) (p1 : Int32) (hk : k < 4) (hA : A ≤ 8) (hT : T < 12) (n2 : n ≤ 12) (s2 : s ≤ 11) (han : a + n ≤ 60) (a1 : hg h 34 7 = nI A) (a2 : hg h 86 31 = nI A) (oa : ∀ a, a < A → AgOk h a) (ot : ∀ t, t < T → TrOk h t ∧ hg h 61 t = mtS h t A) (oz : ∀ t, T ≤ t → hg h 61 t = 0) (h1 g hD hM h2 : H2)
    (e1 : h1 = sC (sI h 6 4 0) 14 (8 + k) a 0 n) (eg : g = sI (sI (sI (sC h1 (46 + T) 14 0 0 n) 58 T (nI n)) 59 T (nI s)) 60 T p1) (eD : hD = sI (sI g 61 T (mtS g T A)) 34 8 (nI (T + 1)))
    (eM : hM = sI (sI (sI (sI hD 86 0 0) 111 T (nI s)) 112 T p1) 113 T (nI n))
    (e2 : h2 = sI (sP hM 114 (12 * T) n (fun j => hg hM 89 (60 * k + a + j))) 86 34 (nI (T + 1))) :
    InvHN h2 ∧ Wr [0, 1, 5] h h2 := by
  have rg : ∀ b j, b ≠ 60 → b ≠ 59 → b ≠ 58 → b ≠ 46 + T → b ≠ 14 → b ≠ 6 → hg g b j = hg h b j := by
    intro b j z1 z2 z3 z4 z5 z6
    rw [eg, hg_ne _ z1, hg_ne _ z2, hg_ne _ z3, hg_sCn _ z4, e1, hg_sCn _ z5, hg_ne _ z6]
  have rM : ∀ b j, b ≠ 113 → b ≠ 112 → b ≠ 111 → b ≠ 86 → b ≠ 34 → b ≠ 61 → hg hM b j = hg g b j := by
    intro b j z1 z2 z3 z4 z5 z6
    rw [eM, hg_ne _ z1, hg_ne _ z2, hg_ne _ z3, hg_ne _ z4, eD, hg_ne _ z5, hg_ne _ z6]
  have r2 : ∀ b j, b ≠ 86 → b ≠ 114 → hg h2 b j = hg hM b j := by
    intro b j z1 z2
    rw [e2, hg_ne _ z1, hg_sPn _ z2]
  have rn : ∀ b j, b ≠ 86 → b ≠ 114 → b ≠ 113 → b ≠ 112 → b ≠ 111 → b ≠ 34 → b ≠ 61 → hg h2 b j = hg g b j := by
    intro b j z1 z2 z3 z4 z5 z6 z7
    rw [r2 b j z1 z2, rM b j z3 z4 z5 z1 z6 z7]
  have rh : ∀ b j, b ≠ 86 → b ≠ 114 → b ≠ 113 → b ≠ 112 → b ≠ 111 → b ≠ 34 → b ≠ 61 → b ≠ 60 → b ≠ 59 → b ≠ 58 → b ≠ 46 + T → b ≠ 14 → b ≠ 6 → hg h2 b j = hg h b j := by
    intro b j z1 z2 z3 z4 z5 z6 z7 z8 z9 za zb zc zd
    rw [rn b j z1 z2 z3 z4 z5 z6 z7, rg b j z8 z9 za zb zc zd]
  have r89 : ∀ j, hg hM 89 j = hg h 89 j := by
    intro j
    rw [rM _ _ (by decide) (by decide) (by decide) (by decide) (by decide) (by decide), rg _ _ (by decide) (by decide) (by decide) (by omega) (by decide) (by decide)]
  have one : ∀ (b : Nat) (x : Int32), b = 58 ∧ x = nI n ∨ b = 59 ∧ x = nI s ∨ b = 60 ∧ x = p1 → ∀ j, hg h2 b j = if j = T then x else hg h b j := by
    intro b x hb j
    rw [rn b j (by omega) (by omega) (by omega) (by omega) (by omega) (by omega) (by omega), eg]
    rcases hb with ⟨rfl, rfl⟩ | ⟨rfl, rfl⟩ | ⟨rfl, rfl⟩
    · rw [hg_ne _ (by decide), hg_ne _ (by decide), hg_sI]
      by_cases c : j = T
      · rw [if_pos ⟨rfl, c⟩, if_pos c]
      · rw [if_neg (fun z => c z.2), if_neg c, hg_sCn _ (by omega), e1, hg_sCn _ (by decide), hg_ne _ (by decide)]
    · rw [hg_ne _ (by decide), hg_sI]
      by_cases c : j = T
      · rw [if_pos ⟨rfl, c⟩, if_pos c]
      · rw [if_neg (fun z => c z.2), if_neg c, hg_ne _ (by decide), hg_sCn _ (by omega), e1, hg_sCn _ (by decide), hg_ne _ (by decide)]
    · rw [hg_sI]
      by_cases c : j = T
      · rw [if_pos ⟨rfl, c⟩, if_pos c]
      · rw [if_neg (fun z => c z.2), if_neg c, hg_ne _ (by decide), hg_ne _ (by decide), hg_sCn _ (by omega), e1, hg_sCn _ (by decide), hg_ne _ (by decide)]
  have rD : ∀ b j, b ≠ 34 → b ≠ 61 → b ≠ 60 → b ≠ 59 → b ≠ 58 → b ≠ 46 + T → b ≠ 14 → b ≠ 6 → hg hD b j = hg h b j := by
    intro b j z1 z2 z3 z4 z5 z6 z7 z8
    rw [eD, hg_ne _ z1, hg_ne _ z2, rg b j z3 z4 z5 z6 z7 z8]
  have two : ∀ (b : Nat) (x : Int32), b = 113 ∧ x = nI n ∨ b = 111 ∧ x = nI s ∨ b = 112 ∧ x = p1 → ∀ j, hg h2 b j = if j = T then x else hg h b j := by
    intro b x hb j
    rw [r2 b j (by omega) (by omega), eM]
    rcases hb with ⟨rfl, rfl⟩ | ⟨rfl, rfl⟩ | ⟨rfl, rfl⟩
    · rw [hg_sI]
      by_cases c : j = T
      · rw [if_pos ⟨rfl, c⟩, if_pos c]
      · rw [if_neg (fun z => c z.2), if_neg c, hg_ne _ (by decide), hg_ne _ (by decide), hg_ne _ (by decide), rD _ _ (by decide) (by decide) (by decide) (by decide) (by decide) (by omega) (by decide) (by decide)]
    · rw [hg_ne _ (by decide), hg_ne _ (by decide), hg_sI]
      by_cases c : j = T
      · rw [if_pos ⟨rfl, c⟩, if_pos c]
      · rw [if_neg (fun z => c z.2), if_neg c, hg_ne _ (by decide), rD _ _ (by decide) (by decide) (by decide) (by decide) (by decide) (by omega) (by decide) (by decide)]
    · rw [hg_ne _ (by decide), hg_sI]
      by_cases c : j = T
      · rw [if_pos ⟨rfl, c⟩, if_pos c]
      · rw [if_neg (fun z => c z.2), if_neg c, hg_ne _ (by decide), hg_ne _ (by decide), rD _ _ (by decide) (by decide) (by decide) (by decide) (by decide) (by omega) (by decide) (by decide)]
  have rT : ∀ j, j < n → hg h2 (46 + T) j = hg h 89 (60 * k + a + j) := by
    intro j hj
    rw [rn _ _ (by omega) (by omega) (by omega) (by omega) (by omega) (by omega) (by omega), eg, hg_ne _ (by omega), hg_ne _ (by omega), hg_ne _ (by omega), hg_sC, if_pos ⟨rfl, by omega, by omega⟩, e1, hg_sC, if_pos ⟨rfl, by omega, by omega⟩, hg_ne _ (by omega)]
    obtain ⟨-, -, hr⟩ := iv.1.2 k hk
    have := hr (a + j) (by omega)
    rw [← Nat.add_assoc] at this
    rw [← this]
    congr 1
    omega
  have r114 : ∀ j, hg h2 114 j = if 12 * T ≤ j ∧ j < 12 * T + n then hg h 89 (60 * k + a + (j - 12 * T)) else hg h 114 j := by
    intro j
    rw [e2, hg_ne _ (by decide), hg_sP]
    by_cases c : 12 * T ≤ j ∧ j < 12 * T + n
    · rw [if_pos ⟨rfl, c⟩, if_pos c, r89]
    · rw [if_neg (fun z => c z.2), if_neg c, rM _ _ (by decide) (by decide) (by decide) (by decide) (by decide) (by decide), rg _ _ (by decide) (by decide) (by decide) (by omega) (by decide) (by decide)]
  have r61 : ∀ j, hg h2 61 j = if j = T then mtS g T A else hg h 61 j := by
    intro j
    rw [r2 _ _ (by decide) (by decide), eM, hg_ne _ (by decide), hg_ne _ (by decide), hg_ne _ (by decide), hg_ne _ (by decide), eD, hg_ne _ (by decide), hg_sI]
    by_cases c : j = T
    · rw [if_pos ⟨rfl, c⟩, if_pos c]
    · rw [if_neg (fun z => c z.2), if_neg c, rg _ _ (by decide) (by decide) (by decide) (by omega) (by decide) (by decide)]
  have mc : ∀ b t, b < 8 → t < T → mt h2 b t = mt h b t := by
    intro b t hb ht
    refine mt_congr (fun j => rh _ _ ?_ ?_ ?_ ?_ ?_ ?_ ?_ ?_ ?_ ?_ ?_ ?_ ?_) (fun j => rh _ _ ?_ ?_ ?_ ?_ ?_ ?_ ?_ ?_ ?_ ?_ ?_ ?_ ?_) (rh _ _ ?_ ?_ ?_ ?_ ?_ ?_ ?_ ?_ ?_ ?_ ?_ ?_ ?_) ?_ ?_
    all_goals (first | omega | skip)
    · rw [one 58 (nI n) (Or.inl ⟨rfl, rfl⟩), if_neg (by omega)]
    · rw [one 59 (nI s) (Or.inr (Or.inl ⟨rfl, rfl⟩)), if_neg (by omega)]
  have mT : ∀ b, b < 8 → mt h2 b T = mt g b T := by
    intro b hb
    refine mt_congr (fun j => rn _ _ ?_ ?_ ?_ ?_ ?_ ?_ ?_) (fun j => rn _ _ ?_ ?_ ?_ ?_ ?_ ?_ ?_) (rn _ _ ?_ ?_ ?_ ?_ ?_ ?_ ?_) (rn _ _ ?_ ?_ ?_ ?_ ?_ ?_ ?_) (rn _ _ ?_ ?_ ?_ ?_ ?_ ?_ ?_) <;> omega
  refine ⟨⟨InvH_w iv.1 ?_ ?_, A, T + 1, hA, by omega, ?_, ?_, ?_, ?_, ?_, ?_, ?_⟩, ?_⟩
  · have q0 : hg h2 86 0 = 0 := by rw [e2, hg_nj _ (by decide), hg_sPn _ (by decide), eM, hg_ne _ (by decide), hg_ne _ (by decide), hg_ne _ (by decide), hg_eq]
    rw [q0, rn _ _ (by decide) (by decide) (by decide) (by decide) (by decide) (by decide) (by decide), eg, hg_ne _ (by decide), hg_ne _ (by decide), hg_ne _ (by decide), hg_sCn _ (by omega), e1, hg_sCn _ (by decide), hg_eq]
  · intro b j hb
    exact rh b j (by omega) (by omega) (by omega) (by omega) (by omega) (by omega) (by omega) (by omega) (by omega) (by omega) (by omega) (by omega) (by omega)
  · rw [r2 _ _ (by decide) (by decide), eM, hg_ne _ (by decide), hg_ne _ (by decide), hg_ne _ (by decide), hg_ne _ (by decide), eD, hg_nj _ (by decide), hg_ne _ (by decide), rg _ _ (by decide) (by decide) (by decide) (by omega) (by decide) (by decide), a1]
  · rw [e2, hg_nj _ (by decide), hg_sPn _ (by decide), eM, hg_ne _ (by decide), hg_ne _ (by decide), hg_ne _ (by decide), hg_nj _ (by decide), rD _ _ (by decide) (by decide) (by decide) (by decide) (by decide) (by omega) (by decide) (by decide), a2]
  · rw [r2 _ _ (by decide) (by decide), eM, hg_ne _ (by decide), hg_ne _ (by decide), hg_ne _ (by decide), hg_ne _ (by decide), eD, hg_eq]
  · rw [e2, hg_eq]
  · intro b hb
    exact AgOk_r (by omega) (oa b hb) (fun c j hc => rh c j (by omega) (by omega) (by omega) (by omega) (by omega) (by omega) (by omega) (by omega) (by omega) (by omega) (by omega) (by omega) (by omega))
  · intro t ht
    by_cases c : t = T
    · subst c
      refine ⟨⟨n, s, n2, s2, ?_, ?_, ?_, ?_, ?_, ?_⟩, ?_⟩
      · rw [one 58 (nI n) (Or.inl ⟨rfl, rfl⟩), if_pos rfl]
      · rw [two 113 (nI n) (Or.inl ⟨rfl, rfl⟩), if_pos rfl]
      · rw [one 59 (nI s) (Or.inr (Or.inl ⟨rfl, rfl⟩)), if_pos rfl]
      · rw [two 111 (nI s) (Or.inr (Or.inl ⟨rfl, rfl⟩)), if_pos rfl]
      · rw [one 60 p1 (Or.inr (Or.inr ⟨rfl, rfl⟩)), two 112 p1 (Or.inr (Or.inr ⟨rfl, rfl⟩)), if_pos rfl, if_pos rfl]
      · intro j hj
        rw [rT j hj, r114, if_pos ⟨by omega, by omega⟩]
        congr 1
        omega
      · rw [r61, if_pos rfl]
        exact (mtS_congr (fun b hb => mT b (by omega))).symm
    · obtain ⟨⟨nn, s', nn2, s2', en, en', es, es', ec, rt⟩, o2⟩ := ot t (by omega)
      refine ⟨⟨nn, s', nn2, s2', ?_, ?_, ?_, ?_, ?_, ?_⟩, ?_⟩
      · rw [one 58 (nI n) (Or.inl ⟨rfl, rfl⟩), if_neg c, en]
      · rw [two 113 (nI n) (Or.inl ⟨rfl, rfl⟩), if_neg c, en']
      · rw [one 59 (nI s) (Or.inr (Or.inl ⟨rfl, rfl⟩)), if_neg c, es]
      · rw [two 111 (nI s) (Or.inr (Or.inl ⟨rfl, rfl⟩)), if_neg c, es']
      · rw [one 60 p1 (Or.inr (Or.inr ⟨rfl, rfl⟩)), two 112 p1 (Or.inr (Or.inr ⟨rfl, rfl⟩)), if_neg c, if_neg c, ec]
      · intro j hj
        rw [r114, if_neg (by omega), rh _ _ (by omega) (by omega) (by omega) (by omega) (by omega) (by omega) (by omega) (by omega) (by omega) (by omega) (by omega) (by omega) (by omega)]
        exact rt j hj
      · rw [r61, if_neg c, o2]
        exact (mtS_congr (fun b hb => mc b t (by omega) (by omega))).symm
  · intro t ht
    rw [r61, if_neg (by omega), oz t (by omega)]
  · have m1 : (1 : Nat) ∈ [0, 1, 5] := by decide
    have m0 : (0 : Nat) ∈ [0, 1, 5] := by decide
    have m5 : (5 : Nat) ∈ [0, 1, 5] := by decide
    subst e1
    subst eg
    subst eD
    subst eM
    subst e2
    exact Wr_sI (Wr_sP (Wr_sI (Wr_sI (Wr_sI (Wr_sI (Wr_sI (Wr_sI (Wr_sI (Wr_sI (Wr_sI (Wr_sC (Wr_sC (Wr_sI (Wr_refl _ _) m1) (fun j => m0)) (fun j => by rw [comQ hT]; exact m5)) m5) m5) m5) m5) m5) m1) m5) m5) m5) (fun j => m5)) m5
