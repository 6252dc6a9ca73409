def fitT (p0 p1 : Int32) : Int32 := b2i ((0 ≤ p0 ∧ p0 ≤ 11) ∧ (-1 ≤ p1 ∧ p1 ≤ 1))
theorem e122 (X : XS) (h : H2) (Q : Option Value → H2 → Prop) (p0 p1 p2 p3 p4 p5 : Int32) : EC X 122 [.ref 5, .int p0, .int p1, .int p2, .int p3, .int p4, .int p5] h Q ↔ EC X 84 [.ref 6, .int p2, .int p3, .int (fitT p0 p1), .int p4, .int p5] h (fun v h1 => rI v False (fun x2 => if x2 = 0 then cI X 44 [.ref 14, .int p5] h1 (fun x4 h3 => if x4 = 0 then Q (some (.int (-2 : Int32))) h3 else cI X 48 [.ref 34, .int p0, .int p1, .ref 14, .int p5] h3 (fun x6 h5 => Q (some (.int x6)) h5)) else Q (some (.int x2)) h1)) := by
  rw [g122]
  simp only [cI, e161, rI_i, b2i_0]
  unfold fitT
  by_cases c1 : 0 ≤ p0 ∧ p0 ≤ 11
  · rw [if_neg (fun z => z c1)]
    by_cases c2 : -1 ≤ p1 ∧ p1 ≤ 1
    · rw [if_neg (fun z => z c2), b2i_t ⟨c1, c2⟩, g122_24]
    · rw [if_pos c2, b2i_f (fun z => c2 z.2), g122_23, g122_24]
  · rw [if_pos c1, b2i_f (fun z => c1 z.1), g122_23, g122_24]
theorem truck_A (X : XS) (h : H2) (iv : InvHN h) (p0 p1 p2 p3 p4 p5 : Int32) (hp : ¬ (0 ≤ p2 ∧ p2 ≤ 3)) : EC X 122 [.ref 5, .int p0, .int p1, .int p2, .int p3, .int p4, .int p5] h (fun v1 h1 => EC X 204 [.ref 86, .int p0, .int p1, .int p2, .int p3, .int p4, .int p5] h1 (fun v2 h2 => v1 = v2 ∧ InvHN h2 ∧ Wr [0, 1, 5] h h2)) := by
  rw [e122, e84_A X h _ p2 p3 _ p4 p5 hp, rI_i]
  rw [if_neg n_1]
  simp only [g204, cI, e170, rI_i, b2i_0, hp, not_true, not_false_iff, if_false]
  exact ⟨trivial, InvHN_f iv 0, Wr_f (Wr_refl _ _) 0 (by decide)⟩
theorem fit_no {p0 p1 p3 : Int32} (hq : ¬ ((0 ≤ p3 ∧ p3 ≤ 2) ∧ (0 ≤ p0 ∧ p0 ≤ 11) ∧ (-1 ≤ p1 ∧ p1 ≤ 1))) : ¬ ((0 ≤ p3 ∧ p3 ≤ 2) ∧ ¬ fitT p0 p1 = 0) := by
  rintro ⟨z1, z2⟩
  apply hq
  unfold fitT at z2
  rw [b2i_0] at z2
  exact ⟨z1, Decidable.not_not.mp z2⟩
theorem truck_B (X : XS) (h : H2) (iv : InvHN h) (p0 p1 p2 p3 p4 p5 : Int32) (hp : 0 ≤ p2 ∧ p2 ≤ 3) (hq : ¬ ((0 ≤ p3 ∧ p3 ≤ 2) ∧ (0 ≤ p0 ∧ p0 ≤ 11) ∧ (-1 ≤ p1 ∧ p1 ≤ 1))) : EC X 122 [.ref 5, .int p0, .int p1, .int p2, .int p3, .int p4, .int p5] h (fun v1 h1 => EC X 204 [.ref 86, .int p0, .int p1, .int p2, .int p3, .int p4, .int p5] h1 (fun v2 h2 => v1 = v2 ∧ InvHN h2 ∧ Wr [0, 1, 5] h h2)) := by
  rw [e122, e84_B X h _ p2 p3 _ p4 p5 hp (fit_no hq), rI_i]
  rw [if_neg n_2, g204]
  simp only [cI, e170, e171, e168, rI_i, b2i_0, hp, and_self, not_true, not_false_iff, if_true]
  by_cases c1 : 0 ≤ p3 ∧ p3 ≤ 2
  · rw [if_neg (fun z => z c1)]
    by_cases c2 : 0 ≤ p0 ∧ p0 ≤ 11
    · rw [if_neg (fun z => z c2), if_neg (fun z => z (fun c3 => hq ⟨c1, c2, c3⟩))]
      exact ⟨trivial, InvHN_f iv 0, Wr_f (Wr_refl _ _) 0 (by decide)⟩
    · rw [if_pos c2]
      exact ⟨trivial, InvHN_f iv 0, Wr_f (Wr_refl _ _) 0 (by decide)⟩
  · rw [if_pos c1]
    exact ⟨trivial, InvHN_f iv 0, Wr_f (Wr_refl _ _) 0 (by decide)⟩
theorem fit_yes {p0 p1 : Int32} (c2 : 0 ≤ p0 ∧ p0 ≤ 11) (c3 : -1 ≤ p1 ∧ p1 ≤ 1) : ¬ fitT p0 p1 = 0 := by
  unfold fitT
  rw [b2i_0]
  exact fun z => z ⟨c2, c3⟩
theorem truck_F (X : XS) (h : H2) (iv : InvHN h) (k L : Nat) (hk : k < 4) (hL : L ≤ 60) (e13 : hg h 13 k = nI L) (p0 p1 p3 p4 p5 : Int32) (hq : 0 ≤ p3 ∧ p3 ≤ 2) (c2 : 0 ≤ p0 ∧ p0 ≤ 11) (c3 : -1 ≤ p1 ∧ p1 ≤ 1) (w : ¬ tkW h k p3 p4 p5 = 0) : EC X 122 [.ref 5, .int p0, .int p1, .int (nI k), .int p3, .int p4, .int p5] h (fun v1 h1 => EC X 204 [.ref 86, .int p0, .int p1, .int (nI k), .int p3, .int p4, .int p5] h1 (fun v2 h2 => v1 = v2 ∧ InvHN h2 ∧ Wr [0, 1, 5] h h2)) := by
  have hp : 0 ≤ nI k ∧ nI k ≤ 3 := ⟨nI_pos' (by omega), nI_le (b := 3) (by omega) (by omega)⟩
  have nz := tkW_nz h k p3 p4 p5
  rw [e122, e84_C X h _ k L hk hL e13 p3 _ p4 p5 hq (fit_yes c2 c3), if_neg w, rI_i]
  rw [if_neg nz]
  have i2 : InvH2 (sI (sI h 6 4 (tkW h k p3 p4 p5)) 86 0 0) := InvH2_w iv.1.2 (fun b j hb => by rw [hg_ne _ (by omega), hg_ne _ (by omega)])
  have w2 : tkW (sI (sI h 6 4 (tkW h k p3 p4 p5)) 86 0 0) k p3 p4 p5 = tkW h k p3 p4 p5 := tkW_r (by rw [hg_ne _ (by decide), hg_ne _ (by decide)]) (by rw [hg_ne _ (by decide), hg_ne _ (by decide)]) _ _ _
  rw [g204]
  simp only [cI, e170, e171, e168, rI_i, b2i_0, hp, hq, c2, c3, and_self, not_true, not_false_iff, if_true, if_false]
  rw [e172 X _ _ i2 k hk p3 _ _ hq, w2, if_neg w, rI_i, if_neg nz, sI_sI]
  exact ⟨rfl, InvHN_f iv _, Wr_f (Wr_refl _ _) _ (by decide)⟩
theorem truck_M (X : XS) (h g : H2) (R : Option Value → H2 → Prop) (iv : InvH2 h) (k a n : Nat) (hk : k < 4) (han : a + n ≤ 60) (p0 p1 p3 : Int32) (hq : 0 ≤ p3 ∧ p3 ≤ 2) (c2 : 0 ≤ p0 ∧ p0 ≤ 11) (c3 : -1 ≤ p1 ∧ p1 ≤ 1) (w : tkW h k p3 (nI a) (nI n) = 0) (hgR : ∀ b j, b = 12 ∨ b = 13 ∨ b = 87 ∨ b = 88 ∨ b = 89 ∨ (8 ≤ b ∧ b < 12) → hg g b j = hg h b j) (T : Nat) (hT : T ≤ 12) (eT : hg g 86 34 = nI T) :
    EC X 204 [.ref 86, .int p0, .int p1, .int (nI k), .int p3, .int (nI a), .int (nI n)] g R ↔
      if ¬ arP (fun j => hg h 89 (60 * k + a + j)) n = true then R (some (.int (-2))) (sI g 86 0 0) else
      if T = 12 then R (some (.int (-4))) (sI g 86 0 0) else E X 204 134 [some (.ref 86), some (.int p0), some (.int p1), some (.int (nI k)), some (.int p3), some (.int (nI a)), some (.int (nI n)), some (.int 0), some (.int (nI (60 * k + a))), some (.int 0)] [] (sI (sI (sI (sI g 86 0 0) 111 T p0) 112 T p1) 113 T (nI n)) R := by
  have hp : 0 ≤ nI k ∧ nI k ≤ 3 := ⟨nI_pos' (by omega), nI_le (b := 3) (by omega) (by omega)⟩
  have e60 : (60 : Int32) = nI 60 := by decide
  have e12 : (12 : Int32) = nI 12 := by decide
  have hkT : (nI T).toNatClampNeg = T := nI_clamp (by omega)
  have i2 : InvH2 (sI g 86 0 0) := InvH2_w iv (fun b j hb => by rw [hg_ne _ (by omega), hgR b j hb])
  have w2 : tkW (sI g 86 0 0) k p3 (nI a) (nI n) = 0 := by
    rw [tkW_r (h := h) (by rw [hg_ne _ (by decide), hgR _ _ (by omega)]) (by rw [hg_ne _ (by decide), hgR _ _ (by omega)]), w]
  have f34 : hg (sI g 86 0 0) 86 34 = nI T := by rw [hg_nj _ (by decide), eT]
  have ar2 : arP (fun j => hg (sI g 86 0 0) 89 (60 * k + a + j)) n = arP (fun j => hg h 89 (60 * k + a + j)) n := by
    apply arP_congr
    intro j hj
    show hg (sI g 86 0 0) 89 _ = _
    rw [hg_ne _ (by decide), hgR _ _ (by omega)]
  rw [g204]
  simp only [cI, e170, e171, e168, rI_i, b2i_0, hp, hq, c2, c3, and_self, not_true, not_false_iff, if_true, if_false]
  rw [e172 X _ _ i2 k hk p3 _ _ hq, w2, if_pos rfl, rI_i, if_pos rfl, e60, pk_mul, nI_add, e202 X _ _ (60 * k + a) n (by omega), rI_i, ar2, f34, hkT]
  by_cases c : arP (fun j => hg h 89 (60 * k + a + j)) n = true
  · rw [if_pos (fun z => (bz_0 _).mp z c), if_neg (show ¬ ¬ arP (fun j => hg h 89 (60 * k + a + j)) n = true from fun z => z c)]
    by_cases h12 : T = 12
    · rw [if_pos h12, if_neg (fun z => z (by rw [h12]; decide))]
    · have nT : ¬ nI T = 12 := by
        rw [e12, nI_eq (by omega) (by omega)]
        exact h12
      have b12 := bI T 12 (by omega) (by omega)
      rw [if_neg h12, if_pos nT, if_neg b12, if_neg b12, if_neg b12]
  · rw [if_neg (fun z => z ((bz_0 _).mpr c)), if_pos c]
theorem truck_0 (X : XS) (h : H2) (iv : InvHN h) (k a n L : Nat) (hk : k < 4) (hL : L ≤ 60) (e13 : hg h 13 k = nI L) (han : a + n ≤ L) (p0 p1 p3 : Int32) (hq : 0 ≤ p3 ∧ p3 ≤ 2) (c2 : 0 ≤ p0 ∧ p0 ≤ 11) (c3 : -1 ≤ p1 ∧ p1 ≤ 1) (w : tkW h k p3 (nI a) (nI n) = 0) : EC X 122 [.ref 5, .int p0, .int p1, .int (nI k), .int p3, .int (nI a), .int (nI n)] h (fun v1 h1 => EC X 204 [.ref 86, .int p0, .int p1, .int (nI k), .int p3, .int (nI a), .int (nI n)] h1 (fun v2 h2 => v1 = v2 ∧ InvHN h2 ∧ Wr [0, 1, 5] h h2)) := by
  have iv' := iv
  obtain ⟨ivH, A, T, hA, hT, a1, a2, t1, t2, oa, ot, oz⟩ := iv
  have ka : (nI a).toNatClampNeg = a := nI_clamp (by omega)
  have kn : (nI n).toNatClampNeg = n := nI_clamp (by omega)
  have md := fun g R hgR eT => truck_M X h g R ivH.2 k a n hk (by omega) p0 p1 p3 hq c2 c3 w hgR T hT eT
  have rt0 : ∀ b j, b ≠ 6 → b ≠ 14 → hg (sC (sI h 6 4 0) 14 (8 + k) a 0 n) b j = hg h b j := fun b j z1 z2 => by rw [hg_sCn _ z2, hg_ne _ z1]
  rw [e122, e84_C X h _ k L hk hL e13 p3 _ (nI a) (nI n) hq (fit_yes c2 c3), if_pos w, rI_i, if_pos rfl, ka, kn]
  show EC X 44 _ _ _
  rw [e44 X _ _ n (by omega), rI_i]
  dsimp only
  rw [taken_ar h ivH.2 k a n hk (by omega)]
  by_cases c : arP (fun j => hg h 89 (60 * k + a + j)) n = true
  · rw [if_neg (fun z => (bz_0 _).mp z c)]
    show EC X 48 _ _ _
    obtain ⟨n1, n2⟩ := arP_n c
    by_cases h12 : T = 12
    · rw [g48, rt0 34 8 (by decide) (by decide), t1, if_neg (fun z => z (by rw [h12]; decide)), rI_i]
      dsimp only
      rw [md _ _ (fun b j hb => rt0 b j (by omega) (by omega)) (by rw [rt0 _ _ (by decide) (by decide), t2]), if_neg (show ¬ ¬ arP (fun j => hg h 89 (60 * k + a + j)) n = true from fun z => z c), if_pos h12]
      exact ⟨rfl, InvHN_t iv' k a n⟩
    · have hT' : T < 12 := by omega
      have e11 : (11 : Int32) = nI 12 - 1 := by decide
      obtain ⟨s, hs, rfl⟩ := (inR_le (v := p0) (show 12 < 2 ^ 31 by omega)).mp (by rw [← e11]; exact c2)
      have oa' : ∀ b, b < A → AgOk (sC (sI h 6 4 0) 14 (8 + k) a 0 n) b := fun b hb => AgOk_r (by omega) (oa b hb) (fun c j hc => rt0 c j (by omega) (by omega))
      rw [e48 X _ _ A T n s p1 hA hT' n2 (by omega) (by rw [rt0 _ _ (by decide) (by decide), a1]) (by rw [rt0 _ _ (by decide) (by decide), t1]) oa' (by rw [rt0 _ _ (by decide) (by decide), oz T (Nat.le_refl _)]) _ rfl, rI_i]
      dsimp only
      generalize eh1 : sC (sI h 6 4 0) 14 (8 + k) a 0 n = h1 at *
      generalize eg : sI (sI (sI (sC h1 (46 + T) 14 0 0 n) 58 T (nI n)) 59 T (nI s)) 60 T p1 = g at *
      generalize eD : sI (sI g 61 T (mtS g T A)) 34 8 (nI (T + 1)) = hD at *
      have rD : ∀ b j, b ≠ 34 → b ≠ 61 → b ≠ 60 → b ≠ 59 → b ≠ 58 → b ≠ 46 + T → b ≠ 6 → b ≠ 14 → hg hD b j = hg h b j := by
        intro b j z1 z2 z3 z4 z5 z6 z7 z8
        rw [← eD, hg_ne _ z1, hg_ne _ z2, ← eg, hg_ne _ z3, hg_ne _ z4, hg_ne _ z5, hg_sCn _ z6, rt0 b j z7 z8]
      have f34 : hg hD 86 34 = nI T := by rw [rD _ _ (by decide) (by decide) (by decide) (by decide) (by decide) (by omega) (by decide) (by decide), t2]
      rw [md _ _ (fun b j hb => rD b j (by omega) (by omega) (by omega) (by omega) (by omega) (by omega) (by omega) (by omega)) f34, if_neg (show ¬ ¬ arP (fun j => hg h 89 (60 * k + a + j)) n = true from fun z => z c), if_neg h12]
      rw [e204 X _ _ T (60 * k + a) n hT' n2 (by omega) (by rw [hg_ne _ (by decide), hg_ne _ (by decide), hg_ne _ (by decide), hg_nj _ (by decide), f34])]
      exact ⟨rfl, truck_fin h iv' A T k a n s p1 hk hA hT' n2 (by omega) (by omega) a1 a2 oa ot oz h1 g hD _ _ eh1.symm eg.symm eD.symm rfl rfl⟩
  · rw [if_pos ((bz_0 _).mpr c), md _ _ (fun b j hb => rt0 b j (by omega) (by omega)) (by rw [rt0 _ _ (by decide) (by decide), t2]), if_pos c]
    exact ⟨rfl, InvHN_t iv' k a n⟩
theorem c_truck (X : XS) (h : H2) (iv : InvHN h) (p0 p1 p2 p3 p4 p5 : Int32) : EC X 122 [.ref 5, .int p0, .int p1, .int p2, .int p3, .int p4, .int p5] h (fun v1 h1 => EC X 204 [.ref 86, .int p0, .int p1, .int p2, .int p3, .int p4, .int p5] h1 (fun v2 h2 => v1 = v2 ∧ InvHN h2 ∧ Wr [0, 1, 5] h h2)) := by
  by_cases hp : 0 ≤ p2 ∧ p2 ≤ 3
  · by_cases hq : (0 ≤ p3 ∧ p3 ≤ 2) ∧ (0 ≤ p0 ∧ p0 ≤ 11) ∧ (-1 ≤ p1 ∧ p1 ≤ 1)
    · obtain ⟨k, hk, rfl⟩ := sh4 hp
      obtain ⟨-, ⟨L, hL, e13, -⟩, hr⟩ := iv.1.2 k hk
      by_cases w : tkW h k p3 p4 p5 = 0
      · obtain ⟨-, -, a, n, rfl, rfl, han⟩ := tkW_0 hL e13 w
        exact truck_0 X h iv k a n L hk hL e13 han p0 p1 p3 hq.1 hq.2.1 hq.2.2 w
      · exact truck_F X h iv k L hk hL e13 p0 p1 p3 p4 p5 hq.1 hq.2.1 hq.2.2 w
    · exact truck_B X h iv p0 p1 p2 p3 p4 p5 hp hq
  · exact truck_A X h iv p0 p1 p2 p3 p4 p5 hp
