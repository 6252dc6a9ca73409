theorem text_fin {h : H2} {c : Nat} {ad : Nat → Nat} (ivH : InvH h) (ok : LsOk h c ad) (hc : c < 24) (k a n q s p : Nat) (r' : Nat → Int32) (V V' : Nat → Int32) (x : Int32) (hr : ∀ i, i < 7 → r' i = V i) (hV : ∀ i, i < 7 → V' i = V i) (b4 : bt (V 5) 4 = false) (d m m2 : H2)
    (ed : d = sI (sL (dH (rdG h k a n) h.1 q r') c h.1) 17 1 (nI (c + 1))) (em : m = mH (sI (sI d 86 0 0) 86 14 x) s p 0 V')
    (e2 : m2 = sI (sI (sI (sI (sI (sI (sI (sI m 90 c (hg m 90 24)) 91 c (hg m 91 24)) 92 c (hg m 92 24)) 93 c (hg m 93 24)) 94 c (hg m 94 24)) 95 c (hg m 95 24)) 96 c (hg m 96 24)) 86 5 (nI (c + 1))) :
    InvHL m2 ∧ Wr [0, 1, 2] h m2 ∧ m2.1 ≤ h.1 + 1 := by
  obtain ⟨hc', c1, c2, ls, inc, sz, fz⟩ := ok
  have hgL : ∀ (g : H2) i v b j, hg (sL g i v) b j = hg g b j := fun g i v b j => rfl
  have rd : ∀ b j, b ≠ 17 → b ≠ h.1 → b ≠ 15 → b ≠ 6 → b ≠ 14 → b ≠ 16 → hg d b j = hg h b j := by
    intro b j z1 z2 z3 z4 z5 z6
    rw [ed, hg_ne _ z1, hgL, dH_o _ _ _ _ _ _ z2 (by omega), rdG_o _ _ _ _ _ _ z4 z5 z3 z6]
  have rm : ∀ b j, b ≠ 86 → ¬ ((90 ≤ b ∧ b < 97) ∧ j = 24) → hg m b j = hg d b j := by
    intro b j z1 z2
    rw [em, mH_o _ _ _ _ _ _ _ (by omega) (by omega) z2, hg_ne _ z1, hg_ne _ z1]
  have r2 : ∀ b j, b ≠ 86 → ¬ ((90 ≤ b ∧ b < 97) ∧ j = c) → hg m2 b j = hg m b j := by
    intro b j z1 z2
    rw [e2, hg_ne _ z1, hg_sI, if_neg (by omega), hg_sI, if_neg (by omega), hg_sI, if_neg (by omega), hg_sI, if_neg (by omega), hg_sI, if_neg (by omega), hg_sI, if_neg (by omega), hg_sI, if_neg (by omega)]
  have rv : ∀ i, i < 7 → hg m (90 + i) 24 = V i := by
    intro i hi
    rw [em, mH_v _ _ _ _ _ _ hi, hV i hi]
  have rc : ∀ i, i < 7 → hg m2 (90 + i) c = V i := by
    intro i hi
    have v := rv i hi
    have : i = 0 ∨ i = 1 ∨ i = 2 ∨ i = 3 ∨ i = 4 ∨ i = 5 ∨ i = 6 := by omega
    rcases this with rfl | rfl | rfl | rfl | rfl | rfl | rfl
    · rw [e2, hg_ne _ (by decide), hg_ne _ (by decide), hg_ne _ (by decide), hg_ne _ (by decide), hg_ne _ (by decide), hg_ne _ (by decide), hg_ne _ (by decide), hg_eq]; exact v
    · rw [e2, hg_ne _ (by decide), hg_ne _ (by decide), hg_ne _ (by decide), hg_ne _ (by decide), hg_ne _ (by decide), hg_ne _ (by decide), hg_eq]; exact v
    · rw [e2, hg_ne _ (by decide), hg_ne _ (by decide), hg_ne _ (by decide), hg_ne _ (by decide), hg_ne _ (by decide), hg_eq]; exact v
    · rw [e2, hg_ne _ (by decide), hg_ne _ (by decide), hg_ne _ (by decide), hg_ne _ (by decide), hg_eq]; exact v
    · rw [e2, hg_ne _ (by decide), hg_ne _ (by decide), hg_ne _ (by decide), hg_eq]; exact v
    · rw [e2, hg_ne _ (by decide), hg_ne _ (by decide), hg_eq]; exact v
    · rw [e2, hg_ne _ (by decide), hg_eq]; exact v
  have s2 : m2.1 = h.1 + 1 := by rw [e2, em, ed]; rfl
  have l2 : m2.2.2.2 = fun j => if j = c then some h.1 else h.2.2.2 j := by rw [e2, em, ed]; rfl
  have ra : ∀ i, i < 7 → hg m2 h.1 i = V i := by
    intro i hi
    rw [r2 _ _ (by omega) (by omega), rm _ _ (by omega) (by omega), ed, hg_ne _ (by omega), hgL, dH_a, hr i hi]
  have m1 : (1 : Nat) ∈ [0, 1, 2] := by decide
  have m0 : (0 : Nat) ∈ [0, 1, 2] := by decide
  have mm2 : (2 : Nat) ∈ [0, 1, 2] := by decide
  refine ⟨⟨InvH_w ivH ?_ ?_, c + 1, fun l => if l = c then h.1 else ad l, by omega, ?_, ?_, ?_, ?_, by omega, ?_⟩, ?_, by omega⟩
  · have q0 : hg m2 86 0 = 0 := by
      rw [e2, hg_nj _ (by decide), hg_ne _ (by decide), hg_ne _ (by decide), hg_ne _ (by decide), hg_ne _ (by decide), hg_ne _ (by decide), hg_ne _ (by decide), hg_ne _ (by decide), em, mH_o _ _ _ _ _ _ _ (by omega) (by omega) (by omega), hg_nj _ (by decide), hg_eq]
    rw [q0, r2 _ _ (by decide) (by omega), rm _ _ (by decide) (by omega), ed, hg_ne _ (by decide), hgL, dH_o _ _ _ _ _ _ (by omega) (by omega), rdG_f]
  · intro b j hb
    rw [r2 _ _ (by omega) (by omega), rm _ _ (by omega) (by omega), rd _ _ (by omega) (by omega) (by omega) (by omega) (by omega) (by omega)]
  · rw [r2 _ _ (by decide) (by omega), rm _ _ (by decide) (by omega), ed, hg_eq]
  · rw [e2, hg_eq]
  · intro l hl
    rw [l2]
    dsimp only
    by_cases e : l = c
    · subst e
      rw [if_pos rfl, if_pos rfl]
      refine ⟨rfl, sz, by omega, ?_, ?_⟩
      · intro i hi
        rw [ra i hi, rc i hi]
      · have := rc 5 (by omega)
        rw [show hg m2 95 l = V 5 from this]
        exact b4
    · rw [if_neg e, if_neg e]
      obtain ⟨l1, la1, la2, la3, la4⟩ := ls l (by omega)
      refine ⟨l1, la1, by omega, ?_, ?_⟩
      · intro i hi
        rw [r2 _ _ (by omega) (by omega), rm _ _ (by omega) (by omega), rd _ _ (by omega) (by omega) (by omega) (by omega) (by omega) (by omega), r2 _ _ (by omega) (by omega), rm _ _ (by omega) (by omega), rd _ _ (by omega) (by omega) (by omega) (by omega) (by omega) (by omega)]
        exact la3 i hi
      · rw [r2 _ _ (by omega) (by omega), rm _ _ (by omega) (by omega), rd _ _ (by omega) (by omega) (by omega) (by omega) (by omega) (by omega)]
        exact la4
  · intro l j hlj hj
    dsimp only
    rw [if_neg (show ¬ l = c by omega)]
    by_cases e : j = c
    · rw [if_pos e]
      exact (ls l (by omega)).2.2.1
    · rw [if_neg e]
      exact inc l j hlj (by omega)
  · intro b hb i
    have hb' : h.1 + 1 ≤ b := by omega
    rw [r2 _ _ (by omega) (by omega), rm _ _ (by omega) (by omega), rd _ _ (by omega) (by omega) (by omega) (by omega) (by omega) (by omega)]
    exact fz b (by omega) i
  · subst ed
    subst em
    subst e2
    exact Wr_sI (Wr_sI (Wr_sI (Wr_sI (Wr_sI (Wr_sI (Wr_sI (Wr_sI (Wr_mH (Wr_sI (Wr_sI (Wr_sI (Wr_sL (Wr_dH (Wr_rdG _ _ _ _ m0 m1 mm2) sz m0 mm2) mm2) mm2) m1) m0) m0 mm2) mm2) mm2) mm2) mm2) mm2) mm2) mm2) mm2
theorem text_0 (X : XS) (h : H2) (iv : InvHL h) (k a n L : Nat) (hk : k < 4) (hL : L ≤ 60) (e13 : hg h 13 k = nI L) (han : a + n ≤ L) (p1 : Int32) (hq : 0 ≤ p1 ∧ p1 ≤ 2) (w : tkW h k p1 (nI a) (nI n) = 0) : EC X 108 [.ref 5, .int (nI k), .int p1, .int (nI a), .int (nI n)] h (fun v1 h1 => EC X 180 [.ref 86, .int (nI k), .int p1, .int (nI a), .int (nI n)] h1 (fun v2 h2 => v1 = v2 ∧ InvHL h2 ∧ Wr [0, 1, 2] h h2 ∧ h2.1 ≤ h.1 + 1)) := by
  have iv' := iv
  obtain ⟨ivH, c, ad, ok⟩ := iv
  have ok' := ok
  obtain ⟨hc, c1, c2, ls, inc, sz, fz⟩ := ok
  have ka : (nI a).toNatClampNeg = a := nI_clamp (by omega)
  have kn : (nI n).toNatClampNeg = n := nI_clamp (by omega)
  have kc : (nI c).toNatClampNeg = c := nI_clamp (by omega)
  have hgL : ∀ (g : H2) i v b j, hg (sL g i v) b j = hg g b j := fun g i v b j => rfl
  have e24 : (24 : Int32) = nI 24 := by decide
  have rD : ∀ q r' b j, b ≠ h.1 → b ≠ 15 → b ≠ 6 → b ≠ 14 → b ≠ 16 → hg (dH (rdG h k a n) h.1 q r') b j = hg h b j := by
    intro q r' b j z1 z2 z3 z4 z5
    rw [dH_o _ _ _ _ _ _ z1 (by omega), rdG_o _ _ _ _ _ _ z3 z4 z2 z5]
  rw [g108]
  show EC X 84 _ h _
  rw [e84_C X h _ k L hk hL e13 p1 1 (nI a) (nI n) hq n1_0, if_pos w, rI_i]
  dsimp only
  rw [if_pos rfl, ka, kn]
  show EC X 67 _ _ _
  apply read_D X h _ iv' k a n hk (by omega)
  · intro q V hV r' hr'
    rw [rO_r]
    show EC X 1 _ _ _
    rw [g1, rD _ _ _ _ (by omega) (by decide) (by decide) (by decide) (by decide), c1, kc]
    have e24' : Int32.ofNat 24 = nI 24 := rfl
    by_cases h24 : c = 24
    · rw [if_neg (fun z => z (by rw [h24]; rfl)), rI_i]
      dsimp only
      rw [text_M X h _ _ ivH.2 k a n hk (by omega) p1 hq w (fun b j hb => rD _ _ _ _ (by omega) (by omega) (by omega) (by omega) (by omega))]
      refine e178 X _ _ n (60 * k + a) (by omega) (by omega) (fun j => hg h 89 (60 * k + a + j)) ?_ _ rfl ?_ ?_
      · intro j hj
        rw [hg_ne _ (by decide), rD _ _ _ _ (by omega) (by decide) (by decide) (by decide) (by decide)]
      · intro q2 V2 hV2 V' hV'
        rw [rI_i, if_pos rfl, mH_o _ _ _ _ _ _ _ (by omega) (by omega) (by omega), hg_nj _ (by decide), hg_nj _ (by decide), rD _ _ _ _ (by omega) (by decide) (by decide) (by decide) (by decide), c2, if_neg (fun z => z (by rw [h24, e24]))]
        exact ⟨rfl, hL_out ivH ok' k a n q _ _ r' 0 V' _⟩
      · intro q2 hV2 w2 V'
        rw [hV] at hV2
        cases hV2
    · have n24 : ¬ nI c = nI 24 := by rw [nI_eq (by omega) (by omega)]; exact h24
      have ol : okT X.1 137 (dH (rdG h k a n) h.1 q r').1 h.1 7 = true := okL X.1 sz (by rw [dH_1, rdG_1]; omega)
      rw [if_pos (by rw [e24']; exact n24), ol, if_neg (bI c 24 (by omega) (by omega)), nI_1, nI_pred]
      rw [cond_true, rI_i]
      dsimp only
      have rD2 : ∀ b j, b ≠ 17 → b ≠ h.1 → b ≠ 15 → b ≠ 6 → b ≠ 14 → b ≠ 16 → hg (sI (sL (dH (rdG h k a n) h.1 q r') c h.1) 17 1 (nI (c + 1))) b j = hg h b j := by
        intro b j z0 z1 z2 z3 z4 z5
        rw [hg_ne _ z0, hgL, rD _ _ _ _ z1 z2 z3 z4 z5]
      rw [text_M X h _ _ ivH.2 k a n hk (by omega) p1 hq w (fun b j hb => rD2 _ _ (by omega) (by omega) (by omega) (by omega) (by omega) (by omega))]
      refine e178 X _ _ n (60 * k + a) (by omega) (by omega) (fun j => hg h 89 (60 * k + a + j)) ?_ _ rfl ?_ ?_
      · intro j hj
        rw [hg_ne _ (by decide), rD2 _ _ (by decide) (by omega) (by decide) (by decide) (by decide) (by decide)]
      · intro q2 V2 hV2 V' hV'
        rw [hV] at hV2
        obtain ⟨-, eV⟩ := Prod.mk.inj hV2
        obtain rfl := Option.some.inj eV
        have f5 : ∀ x, hg (mH (sI (sI (sI (sL (dH (rdG h k a n) h.1 q r') c h.1) 17 1 (nI (c + 1))) 86 0 0) 86 14 x) (60 * k + a) q2 0 V') 86 5 = nI c := by
          intro x
          rw [mH_o _ _ _ _ _ _ _ (by omega) (by omega) (by omega), hg_nj _ (by decide), hg_nj _ (by decide), rD2 _ _ (by decide) (by omega) (by decide) (by decide) (by decide) (by decide), c2]
        rw [rI_i, if_pos rfl, f5, if_pos (by rw [e24]; exact n24)]
        generalize em : mH (sI (sI (sI (sL (dH (rdG h k a n) h.1 q r') c h.1) 17 1 (nI (c + 1))) 86 0 0) 86 14 (nI (60 * k + a + n))) (60 * k + a) q2 0 V' = m at *
        have f5' : hg m 86 5 = nI c := by rw [← em, f5]
        obtain ⟨k1, k2⟩ := k24
        have bc := bI c 25 (show c < 25 by omega) (by omega)
        show EC X 179 _ _ _
        rw [g179, k1, kc, if_neg k2, if_neg bc, if_neg k2, if_neg bc, if_neg k2, if_neg bc, if_neg k2, if_neg bc, if_neg k2, if_neg bc, if_neg k2, if_neg bc, if_neg k2, if_neg bc, rV_n]
        dsimp only
        have rr : ∀ x0 x1 x2 x3 x4 x5 x6, hg (sI (sI (sI (sI (sI (sI (sI m 90 c x0) 91 c x1) 92 c x2) 93 c x3) 94 c x4) 95 c x5) 96 c x6) 86 5 = nI c := by
          intro x0 x1 x2 x3 x4 x5 x6
          rw [hg_ne _ (by decide), hg_ne _ (by decide), hg_ne _ (by decide), hg_ne _ (by decide), hg_ne _ (by decide), hg_ne _ (by decide), hg_ne _ (by decide), f5']
        rw [rr, nI_1, nI_pred]
        exact ⟨rfl, text_fin ivH ok' (by omega) k a n q (60 * k + a) q2 r' V V' _ hr' hV' (prs_b4 hV) _ m _ rfl em.symm rfl⟩
      · intro q2 hV2 w2 V'
        rw [hV] at hV2
        cases hV2
  · intro q hV r'
    rw [rO_n]
    dsimp only
    rw [dH_p _ _ _ sz]
    rw [text_M X h _ _ ivH.2 k a n hk (by omega) p1 hq w (fun b j hb => rD _ _ _ _ (by omega) (by omega) (by omega) (by omega) (by omega))]
    refine e178 X _ _ n (60 * k + a) (by omega) (by omega) (fun j => hg h 89 (60 * k + a + j)) ?_ _ rfl ?_ ?_
    · intro j hj
      rw [hg_ne _ (by decide), rD _ _ _ _ (by omega) (by decide) (by decide) (by decide) (by decide)]
    · intro q2 V2 hV2 V' hV'
      rw [hV] at hV2
      cases hV2
    · intro q2 hV2 w2 V'
      rw [hV] at hV2
      cases hV2
      rw [rI_i, if_neg]
      · exact ⟨rfl, hL_out ivH ok' k a n q _ _ r' w2 V' _⟩
      · have l := prs_le (f := fun j => hg h 89 (60 * k + a + j)) (n := n)
        rw [hV] at l
        exact nI_m9 (by have : q ≤ n := l; omega)
theorem c_text (X : XS) (h : H2) (iv : InvHL h) (p0 p1 p2 p3 : Int32) : EC X 108 [.ref 5, .int p0, .int p1, .int p2, .int p3] h (fun v1 h1 => EC X 180 [.ref 86, .int p0, .int p1, .int p2, .int p3] h1 (fun v2 h2 => v1 = v2 ∧ InvHL h2 ∧ Wr [0, 1, 2] h h2 ∧ h2.1 ≤ h.1 + 1)) := by
  by_cases hp : 0 ≤ p0 ∧ p0 ≤ 3
  · by_cases hq : 0 ≤ p1 ∧ p1 ≤ 2
    · obtain ⟨k, hk, rfl⟩ := sh4 hp
      obtain ⟨-, ⟨L, hL, e13, -⟩, hr⟩ := iv.1.2 k hk
      by_cases w : tkW h k p1 p2 p3 = 0
      · obtain ⟨-, -, a, n, rfl, rfl, han⟩ := tkW_0 hL e13 w
        exact text_0 X h iv k a n L hk hL e13 han p1 hq w
      · exact text_F X h iv k L hk hL e13 p1 p2 p3 hq w
    · exact text_B X h iv p0 p1 p2 p3 hp hq
  · exact text_A X h iv p0 p1 p2 p3 hp
