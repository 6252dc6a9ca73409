theorem agent_A (X : XS) (h : H2) (iv : InvHN h) (p0 p1 p2 p3 : Int32) (hp : ¬ (0 ≤ p0 ∧ p0 ≤ 3)) : EC X 121 [.ref 5, .int p0, .int p1, .int p2, .int p3] h (fun v1 h1 => EC X 203 [.ref 86, .int p0, .int p1, .int p2, .int p3] h1 (fun v2 h2 => v1 = v2 ∧ InvHN h2 ∧ Wr [0, 1, 5] h h2)) := by
  rw [g121]
  show EC X 84 _ h _
  rw [e84_A X h _ p0 p1 1 p2 p3 hp, rI_i]
  dsimp only
  rw [if_neg n_1]
  simp only [g203, cI, e170, rI_i, b2i_0, hp, not_true, not_false_iff, if_false]
  exact ⟨trivial, InvHN_f iv 0, Wr_f (Wr_refl _ _) 0 (by decide)⟩
theorem agent_B (X : XS) (h : H2) (iv : InvHN h) (p0 p1 p2 p3 : Int32) (hp : 0 ≤ p0 ∧ p0 ≤ 3) (hq : ¬ (0 ≤ p1 ∧ p1 ≤ 2)) : EC X 121 [.ref 5, .int p0, .int p1, .int p2, .int p3] h (fun v1 h1 => EC X 203 [.ref 86, .int p0, .int p1, .int p2, .int p3] h1 (fun v2 h2 => v1 = v2 ∧ InvHN h2 ∧ Wr [0, 1, 5] h h2)) := by
  rw [g121]
  show EC X 84 _ h _
  rw [e84_B X h _ p0 p1 1 p2 p3 hp (fun z => hq z.1), rI_i]
  dsimp only
  rw [if_neg n_2]
  simp only [g203, cI, e170, e171, rI_i, b2i_0, hp, hq, and_self, not_true, not_false_iff, if_true, if_false]
  exact ⟨trivial, InvHN_f iv 0, Wr_f (Wr_refl _ _) 0 (by decide)⟩
theorem agent_F (X : XS) (h : H2) (iv : InvHN h) (k L : Nat) (hk : k < 4) (hL : L ≤ 60) (e13 : hg h 13 k = nI L) (p1 p2 p3 : Int32) (hq : 0 ≤ p1 ∧ p1 ≤ 2) (w : ¬ tkW h k p1 p2 p3 = 0) : EC X 121 [.ref 5, .int (nI k), .int p1, .int p2, .int p3] h (fun v1 h1 => EC X 203 [.ref 86, .int (nI k), .int p1, .int p2, .int p3] h1 (fun v2 h2 => v1 = v2 ∧ InvHN h2 ∧ Wr [0, 1, 5] h h2)) := by
  have hp : 0 ≤ nI k ∧ nI k ≤ 3 := ⟨nI_pos' (by omega), nI_le (b := 3) (by omega) (by omega)⟩
  rw [g121]
  show EC X 84 _ h _
  have nz := tkW_nz h k p1 p2 p3
  rw [e84_C X h _ k L hk hL e13 p1 1 p2 p3 hq n1_0, if_neg w, rI_i]
  dsimp only
  rw [if_neg nz]
  have i2 : InvH2 (sI (sI h 6 4 (tkW h k p1 p2 p3)) 86 0 0) := InvH2_w iv.1.2 (fun b j hb => by rw [hg_ne _ (by omega), hg_ne _ (by omega)])
  have w2 : tkW (sI (sI h 6 4 (tkW h k p1 p2 p3)) 86 0 0) k p1 p2 p3 = tkW h k p1 p2 p3 := tkW_r (by rw [hg_ne _ (by decide), hg_ne _ (by decide)]) (by rw [hg_ne _ (by decide), hg_ne _ (by decide)]) _ _ _
  rw [g203]
  simp only [cI, e170, e171, rI_i, b2i_0, hp, hq, and_self, not_true, not_false_iff, if_true]
  rw [e172 X _ _ i2 k hk p1 _ _ hq, w2, if_neg w, rI_i, if_neg nz, sI_sI]
  exact ⟨rfl, InvHN_f iv _, Wr_f (Wr_refl _ _) _ (by decide)⟩
/-- the reference's side of a good taking, up to the places -/
theorem agent_M (X : XS) (h g : H2) (R : Option Value → H2 → Prop) (iv : InvH2 h) (k a n : Nat) (hk : k < 4) (han : a + n ≤ 60) (p1 : Int32) (hq : 0 ≤ p1 ∧ p1 ≤ 2) (w : tkW h k p1 (nI a) (nI n) = 0) (hgR : ∀ b j, b = 12 ∨ b = 13 ∨ b = 87 ∨ b = 88 ∨ b = 89 ∨ (8 ≤ b ∧ b < 12) → hg g b j = hg h b j) :
    EC X 203 [.ref 86, .int (nI k), .int p1, .int (nI a), .int (nI n)] g R ↔
      if ¬ arP (fun j => hg h 89 (60 * k + a + j)) n = true then R (some (.int (-2))) (sI g 86 0 0) else
      if ¬ hg g 86 31 = 8 then (if hg g 86 31 < 0 ∨ 8 ≤ (hg g 86 31).toNatClampNeg then False else E X 203 91 [some (.ref 86), some (.int (nI k)), some (.int p1), some (.int (nI a)), some (.int (nI n)), some (.int 0), some (.int (nI (60 * k + a))), some (.int 0)] [] (sI (sI g 86 0 0) 109 ((hg g 86 31).toNatClampNeg) (nI n)) R) else R (some (.int (-4))) (sI g 86 0 0) := by
  have hp : 0 ≤ nI k ∧ nI k ≤ 3 := ⟨nI_pos' (by omega), nI_le (b := 3) (by omega) (by omega)⟩
  have e60 : (60 : Int32) = nI 60 := by decide
  have i2 : InvH2 (sI g 86 0 0) := InvH2_w iv (fun b j hb => by rw [hg_ne _ (by omega), hgR b j hb])
  have w2 : tkW (sI g 86 0 0) k p1 (nI a) (nI n) = 0 := by
    rw [tkW_r (h := h) (by rw [hg_ne _ (by decide), hgR _ _ (by omega)]) (by rw [hg_ne _ (by decide), hgR _ _ (by omega)]), w]
  have f31 : hg (sI g 86 0 0) 86 31 = hg g 86 31 := hg_nj _ (by decide)
  have ar2 : arP (fun j => hg (sI g 86 0 0) 89 (60 * k + a + j)) n = arP (fun j => hg h 89 (60 * k + a + j)) n := by
    apply arP_congr
    intro j hj
    show hg (sI g 86 0 0) 89 _ = _
    rw [hg_ne _ (by decide), hgR _ _ (by omega)]
  rw [g203]
  simp only [cI, e170, e171, rI_i, b2i_0, hp, hq, and_self, not_true, not_false_iff, if_true]
  rw [e172 X _ _ i2 k hk p1 _ _ hq, w2, if_pos rfl, rI_i, if_pos rfl, e60, pk_mul, nI_add, e202 X _ _ (60 * k + a) n (by omega), rI_i, ar2, f31]
  by_cases c : arP (fun j => hg h 89 (60 * k + a + j)) n = true
  · rw [if_pos (fun z => (bz_0 _).mp z c), if_neg (show ¬ ¬ arP (fun j => hg h 89 (60 * k + a + j)) n = true from fun z => z c)]
  · rw [if_neg (fun z => z ((bz_0 _).mpr c)), if_pos c]
theorem taken_ar (h : H2) (iv : InvH2 h) (k a n : Nat) (hk : k < 4) (han : a + n ≤ 60) : arP (hg (sC (sI h 6 4 0) 14 (8 + k) a 0 n) 14) n = arP (fun j => hg h 89 (60 * k + a + j)) n := by
  obtain ⟨-, -, hr⟩ := iv k hk
  apply arP_congr
  intro j hj
  rw [hg_sC, if_pos ⟨rfl, by omega, by omega⟩, hg_ne _ (by omega)]
  have := hr (a + j) (by omega)
  rw [← Nat.add_assoc] at this
  show _ = hg h 89 (60 * k + a + j)
  rw [← this]
  congr 1
theorem TrOk_r {h h' : H2} {t : Nat} (ht : t < 12) (o : TrOk h t) (hr : ∀ b j, b = 58 ∨ b = 113 ∨ b = 59 ∨ b = 111 ∨ b = 60 ∨ b = 112 ∨ b = 114 ∨ (46 ≤ b ∧ b < 58) → hg h' b j = hg h b j) : TrOk h' t := by
  obtain ⟨nn, s, nn2, s2, en, en', es, es', ec, rt⟩ := o
  refine ⟨nn, s, nn2, s2, ?_, ?_, ?_, ?_, ?_, ?_⟩
  · rw [hr _ _ (by omega), en]
  · rw [hr _ _ (by omega), en']
  · rw [hr _ _ (by omega), es]
  · rw [hr _ _ (by omega), es']
  · rw [hr _ _ (by omega), hr _ _ (by omega), ec]
  · intro j hj
    rw [hr _ _ (by omega), hr _ _ (by omega)]
    exact rt j hj
theorem agent_0 (X : XS) (h : H2) (iv : InvHN h) (k a n L : Nat) (hk : k < 4) (hL : L ≤ 60) (e13 : hg h 13 k = nI L) (han : a + n ≤ L) (p1 : Int32) (hq : 0 ≤ p1 ∧ p1 ≤ 2) (w : tkW h k p1 (nI a) (nI n) = 0) : EC X 121 [.ref 5, .int (nI k), .int p1, .int (nI a), .int (nI n)] h (fun v1 h1 => EC X 203 [.ref 86, .int (nI k), .int p1, .int (nI a), .int (nI n)] h1 (fun v2 h2 => v1 = v2 ∧ InvHN h2 ∧ Wr [0, 1, 5] h h2)) := by
  have iv' := iv
  obtain ⟨ivH, A, T, hA, hT, a1, a2, t1, t2, oa, ot, oz⟩ := iv
  have ka : (nI a).toNatClampNeg = a := nI_clamp (by omega)
  have kn : (nI n).toNatClampNeg = n := nI_clamp (by omega)
  have md := fun g R hgR => agent_M X h g R ivH.2 k a n hk (by omega) p1 hq w hgR
  have rt0 : ∀ b j, b ≠ 6 → b ≠ 14 → hg (sC (sI h 6 4 0) 14 (8 + k) a 0 n) b j = hg h b j := fun b j z1 z2 => by rw [hg_sCn _ z2, hg_ne _ z1]
  rw [g121]
  show EC X 84 _ h _
  rw [e84_C X h _ k L hk hL e13 p1 1 (nI a) (nI n) hq n1_0, if_pos w, rI_i]
  dsimp only
  rw [if_pos rfl, ka, kn]
  show EC X 44 _ _ _
  rw [e44 X _ _ n (by omega), rI_i]
  dsimp only
  rw [taken_ar h ivH.2 k a n hk (by omega)]
  by_cases c : arP (fun j => hg h 89 (60 * k + a + j)) n = true
  · rw [if_neg (fun z => (bz_0 _).mp z c)]
    show EC X 47 _ _ _
    obtain ⟨n1, n2⟩ := arP_n c
    by_cases h8 : A = 8
    · subst h8
      rw [g47, rt0 34 7 (by decide) (by decide), a1, if_neg (fun z => z (by decide)), rI_i]
      dsimp only
      rw [md _ _ (fun b j hb => rt0 b j (by omega) (by omega)), if_neg (show ¬ ¬ arP (fun j => hg h 89 (60 * k + a + j)) n = true from fun z => z c), rt0 _ _ (by decide) (by decide), a2, if_neg (fun z => z (by decide))]
      exact ⟨rfl, InvHN_t iv' k a n⟩
    · have hA' : A < 8 := by omega
      have n8 : ¬ nI A = 8 := by
        have e : (8 : Int32) = nI 8 := by decide
        rw [e, nI_eq (by omega) (by omega)]
        omega
      have hkA : (nI A).toNatClampNeg = A := nI_clamp (by omega)
      have ot' : ∀ t, t < T → TrOk (sC (sI h 6 4 0) 14 (8 + k) a 0 n) t := fun t ht => TrOk_r (by omega) (ot t ht).1 (fun b j hb => rt0 b j (by omega) (by omega))
      rw [e47 X _ _ A T n hA' hT n1 n2 (by rw [rt0 _ _ (by decide) (by decide), a1]) (by rw [rt0 _ _ (by decide) (by decide), t1]) ot', rI_i]
      dsimp only
      generalize eh1 : sC (sI h 6 4 0) 14 (8 + k) a 0 n = h1 at *
      generalize eg : sI (sC h1 (36 + A) 14 0 0 n) 44 A (nI n) = g at *
      generalize eD : sI (sR g 61 (fA g A T)) 34 7 (nI (A + 1)) = hD at *
      have rD : ∀ b j, b ≠ 34 → b ≠ 61 → b ≠ 44 → b ≠ 36 + A → b ≠ 6 → b ≠ 14 → hg hD b j = hg h b j := by
        intro b j z1 z2 z3 z4 z5 z6
        rw [← eD, hg_ne _ z1, hg_sRn _ z2, ← eg, hg_ne _ z3, hg_sCn _ z4, rt0 b j z5 z6]
      have f31 : hg hD 86 31 = nI A := by rw [rD _ _ (by decide) (by decide) (by decide) (by omega) (by decide) (by decide), a2]
      rw [md _ _ (fun b j hb => rD b j (by omega) (by omega) (by omega) (by omega) (by omega) (by omega)), if_neg (show ¬ ¬ arP (fun j => hg h 89 (60 * k + a + j)) n = true from fun z => z c), f31, if_pos n8, hkA, if_neg (bI A 8 hA' (by omega))]
      rw [e203 X _ _ A (60 * k + a) n hA' n2 (by omega) (by rw [hg_ne _ (by decide), hg_nj _ (by decide), f31])]
      exact ⟨rfl, agent_fin h iv' A T k a n hk hA' hT n1 n2 (by omega) a1 a2 t1 t2 oa ot oz h1 g hD _ eh1.symm eg.symm eD.symm rfl⟩
  · rw [if_pos ((bz_0 _).mpr c), md _ _ (fun b j hb => rt0 b j (by omega) (by omega)), if_pos c]
    exact ⟨rfl, InvHN_t iv' k a n⟩
theorem c_agent (X : XS) (h : H2) (iv : InvHN h) (p0 p1 p2 p3 : Int32) : EC X 121 [.ref 5, .int p0, .int p1, .int p2, .int p3] h (fun v1 h1 => EC X 203 [.ref 86, .int p0, .int p1, .int p2, .int p3] h1 (fun v2 h2 => v1 = v2 ∧ InvHN h2 ∧ Wr [0, 1, 5] h h2)) := by
  by_cases hp : 0 ≤ p0 ∧ p0 ≤ 3
  · by_cases hq : 0 ≤ p1 ∧ p1 ≤ 2
    · obtain ⟨k, hk, rfl⟩ := sh4 hp
      obtain ⟨-, ⟨L, hL, e13, -⟩, hr⟩ := iv.1.2 k hk
      by_cases w : tkW h k p1 p2 p3 = 0
      · obtain ⟨-, -, a, n, rfl, rfl, han⟩ := tkW_0 hL e13 w
        exact agent_0 X h iv k a n L hk hL e13 han p1 hq w
      · exact agent_F X h iv k L hk hL e13 p1 p2 p3 hq w
    · exact agent_B X h iv p0 p1 p2 p3 hp hq
  · exact agent_A X h iv p0 p1 p2 p3 hp
