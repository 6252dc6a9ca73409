/-! steps: step, more -/
def StOk (h : H2) (s : Nat) : Prop := ∃ x y : Nat, x < 12 ∧ y < 12 ∧ hg h 20 s = nI x ∧ hg h 97 s = nI x ∧ hg h 21 s = nI y ∧ hg h 98 s = nI y ∧ hg h 22 s = hg h 99 s ∧ hg h 23 s = hg h 100 s ∧ hg h 24 s = hg h 101 s ∧ hg h 25 s = hg h 102 s
def WsOk (h : H2) (c : Nat) : Prop := c ≤ 24 ∧ hg h 19 9 = nI c ∧ hg h 86 16 = nI c ∧ ∀ s, s < c → StOk h s
def InvW (h : H2) : Prop := ∃ c, WsOk h c
theorem StOk_r {h h' : H2} {s : Nat} (o : StOk h s) (hr : ∀ b, (20 ≤ b ∧ b < 26) ∨ (97 ≤ b ∧ b < 103) → hg h' b s = hg h b s) : StOk h' s := by
  obtain ⟨x, y, hx, hy, a1, a2, b1, b2, d1, d2, d3, d4⟩ := o
  refine ⟨x, y, hx, hy, ?_, ?_, ?_, ?_, ?_, ?_, ?_, ?_⟩
  · rw [hr _ (by omega), a1]
  · rw [hr _ (by omega), a2]
  · rw [hr _ (by omega), b1]
  · rw [hr _ (by omega), b2]
  · rw [hr _ (by omega), hr _ (by omega), d1]
  · rw [hr _ (by omega), hr _ (by omega), d2]
  · rw [hr _ (by omega), hr _ (by omega), d3]
  · rw [hr _ (by omega), hr _ (by omega), d4]
theorem WsOk_r {h h' : H2} {c : Nat} (o : WsOk h c) (hr : ∀ b j, (20 ≤ b ∧ b < 26) ∨ (97 ≤ b ∧ b < 103) ∨ (b = 19 ∧ j = 9) ∨ (b = 86 ∧ j = 16) → hg h' b j = hg h b j) : WsOk h' c := by
  obtain ⟨hc, c1, c2, so⟩ := o
  exact ⟨hc, by rw [hr _ _ (by omega), c1], by rw [hr _ _ (by omega), c2], fun s hs => StOk_r (so s hs) (fun b hb => hr b s (by omega))⟩
theorem c_step (X : XS) (h : H2) (iv : InvW h) (p0 p1 p2 p3 p4 p5 : Int32) : EC X 114 [.ref 5, .int p0, .int p1, .int p2, .int p3, .int p4, .int p5] h (fun v1 h1 => EC X 191 [.ref 86, .int p0, .int p1, .int p2, .int p3, .int p4, .int p5] h1 (fun v2 h2 => v1 = v2 ∧ InvW h2 ∧ Wr [0, 3] h h2)) := by
  have iv' := iv
  obtain ⟨c, hc, c1, c2, so⟩ := iv
  have fin0 : InvW h ∧ Wr [0, 3] h h := ⟨iv', Wr_refl _ _⟩
  rw [g114]
  show EC X 161 _ _ _
  rw [e161, rI_i]
  dsimp only
  by_cases a1 : 0 ≤ p0 ∧ p0 ≤ 11
  · rw [b2i_t a1, if_neg n1_0]
    show EC X 161 _ _ _
    rw [e161, rI_i]
    dsimp only
    by_cases a2 : 0 ≤ p1 ∧ p1 ≤ 11
    · rw [b2i_t a2, if_neg n1_0]
      by_cases a3 : p0 = p1
      · rw [if_pos a3, g191]
        show EC X 168 _ _ _
        rw [e168, rI_i, b2i_t a1]
        dsimp only
        rw [if_neg n1_0]
        show EC X 168 _ _ _
        rw [e168, rI_i, b2i_t a2]
        dsimp only
        rw [if_neg n1_0, if_pos a3]
        exact ⟨rfl, fin0⟩
      · rw [if_neg a3]
        show EC X 163 _ _ _
        rw [e163, rI_i]
        dsimp only
        have md : ∀ (g : H2) R, EC X 191 [.ref 86, .int p0, .int p1, .int p2, .int p3, .int p4, .int p5] g R ↔ EC X 186 [.int p2, .int p3, .int p4, .int p5] g (fun v h5 => rI v False fun x6 => if ¬ x6 = 0 then if ¬ (hg h5 86 16) = (24 : Int32) then (if (hg h5 86 16) < 0 ∨ 24 ≤ (hg h5 86 16).toNatClampNeg then False else (if (hg h5 86 16) < 0 ∨ 24 ≤ (hg h5 86 16).toNatClampNeg then False else (if (hg h5 86 16) < 0 ∨ 24 ≤ (hg h5 86 16).toNatClampNeg then False else (if (hg h5 86 16) < 0 ∨ 24 ≤ (hg h5 86 16).toNatClampNeg then False else (if (hg h5 86 16) < 0 ∨ 24 ≤ (hg h5 86 16).toNatClampNeg then False else (if (hg h5 86 16) < 0 ∨ 24 ≤ (hg h5 86 16).toNatClampNeg then False else R (some (.int (((hg h5 86 16) + (1 : Int32)) - (1 : Int32)))) (sI (sI (sI (sI (sI (sI (sI h5 97 ((hg h5 86 16).toNatClampNeg) p0) 98 ((hg h5 86 16).toNatClampNeg) p1) 99 ((hg h5 86 16).toNatClampNeg) p2) 100 ((hg h5 86 16).toNatClampNeg) p3) 101 ((hg h5 86 16).toNatClampNeg) p4) 102 ((hg h5 86 16).toNatClampNeg) p5) 86 16 ((hg h5 86 16) + (1 : Int32))))))))) else R (some (.int (-4 : Int32))) h5 else R (some (.int (-2 : Int32))) h5) := by
          intro g R
          rw [g191]
          show EC X 168 _ _ _ ↔ _
          rw [e168, rI_i, b2i_t a1]
          dsimp only
          rw [if_neg n1_0]
          show EC X 168 _ _ _ ↔ _
          rw [e168, rI_i, b2i_t a2]
          dsimp only
          rw [if_neg n1_0, if_neg a3]
        by_cases hd : (0 ≤ p2 ∧ p2 ≤ 3) ∧ (0 ≤ p3 ∧ p3 ≤ 3) ∧ (0 ≤ p4 ∧ p4 ≤ 99) ∧ (0 ≤ p5 ∧ p5 ≤ 4)
        · rw [b2i_t hd, if_pos n1_0]
          show EC X 100 _ _ _
          have kc : (nI c).toNatClampNeg = c := nI_clamp (by omega)
          have e24 : (24 : Int32) = nI 24 := by decide
          rw [g100, c1, kc]
          by_cases h24 : c = 24
          · rw [if_neg (fun z => z (by rw [h24]; rfl)), rI_i]
            dsimp only
            rw [md, e186, rI_i, b2i_t hd, if_pos n1_0, c2, if_neg (fun z => z (by rw [h24]; rfl))]
            exact ⟨rfl, fin0⟩
          · have n24' : ¬ nI c = 24 := by rw [e24, nI_eq (by omega) (by omega)]; exact h24
            have b2 := bI c 24 (show c < 24 by omega) (by omega)
            rw [if_pos n24', if_neg b2, if_neg b2, if_neg b2, if_neg b2, if_neg b2, if_neg b2, rI_i, nI_1, nI_pred]
            dsimp only
            have e11 : (11 : Int32) = nI 12 - 1 := by decide
            obtain ⟨x, hx, rfl⟩ := (inR_le (v := p0) (show 12 < 2 ^ 31 by omega)).mp (by rw [← e11]; exact a1)
            obtain ⟨y, hy, rfl⟩ := (inR_le (v := p1) (show 12 < 2 ^ 31 by omega)).mp (by rw [← e11]; exact a2)
            generalize eg : sI (sI (sI (sI (sI (sI (sI h 20 c (nI x)) 21 c (nI y)) 22 c p2) 23 c p3) 24 c p4) 25 c p5) 19 9 (nI (c + 1)) = g
            have r1 : ∀ b j, ¬ (20 ≤ b ∧ b < 26) → b ≠ 19 → hg g b j = hg h b j := by
              intro b j z1 z2
              rw [← eg, hg_ne _ z2, hg_ne _ (by omega), hg_ne _ (by omega), hg_ne _ (by omega), hg_ne _ (by omega), hg_ne _ (by omega), hg_ne _ (by omega)]
            have f16 : hg g 86 16 = nI c := by rw [r1 _ _ (by omega) (by decide), c2]
            rw [md, e186, rI_i, b2i_t hd, if_pos n1_0, f16, if_pos n24', kc, if_neg b2, if_neg b2, if_neg b2, if_neg b2, if_neg b2, if_neg b2, nI_1, nI_pred]
            have m3 : (3 : Nat) ∈ [0, 3] := by decide
            refine ⟨rfl, ⟨c + 1, by omega, ?_, ?_, ?_⟩, ?_⟩
            · rw [hg_ne _ (by decide), hg_ne _ (by decide), hg_ne _ (by decide), hg_ne _ (by decide), hg_ne _ (by decide), hg_ne _ (by decide), hg_ne _ (by decide), ← eg, hg_eq]
            · rw [hg_eq]
            · intro s hs
              by_cases e : s = c
              · subst e
                refine ⟨x, y, hx, hy, ?_, ?_, ?_, ?_, ?_, ?_, ?_, ?_⟩
                · simp [hg_sI, ← eg]
                · simp [hg_sI]
                · simp [hg_sI, ← eg]
                · simp [hg_sI]
                · simp [hg_sI, ← eg]
                · simp [hg_sI, ← eg]
                · simp [hg_sI, ← eg]
                · simp [hg_sI, ← eg]
              · refine StOk_r (so s (by omega)) (fun b hb => ?_)
                rw [hg_sI, if_neg (by omega), hg_nj _ e, hg_nj _ e, hg_nj _ e, hg_nj _ e, hg_nj _ e, hg_nj _ e, ← eg, hg_sI, if_neg (by omega), hg_nj _ e, hg_nj _ e, hg_nj _ e, hg_nj _ e, hg_nj _ e, hg_nj _ e]
            · rw [← eg]
              exact Wr_sI (Wr_sI (Wr_sI (Wr_sI (Wr_sI (Wr_sI (Wr_sI (Wr_sI (Wr_sI (Wr_sI (Wr_sI (Wr_sI (Wr_sI (Wr_sI (Wr_refl _ _) m3) m3) m3) m3) m3) m3) m3) m3) m3) m3) m3) m3) m3) m3
        · rw [b2i_f hd, if_neg (fun z => z rfl), md, e186, rI_i, b2i_f hd, if_neg (fun z => z rfl)]
          exact ⟨rfl, fin0⟩
    · rw [b2i_f a2, if_pos rfl, g191]
      show EC X 168 _ _ _
      rw [e168, rI_i, b2i_t a1]
      dsimp only
      rw [if_neg n1_0]
      show EC X 168 _ _ _
      rw [e168, rI_i, b2i_f a2]
      dsimp only
      rw [if_pos rfl]
      exact ⟨rfl, fin0⟩
  · rw [b2i_f a1, if_pos rfl, g191]
    show EC X 168 _ _ _
    rw [e168, rI_i, b2i_f a1]
    dsimp only
    rw [if_pos rfl]
    exact ⟨rfl, fin0⟩
/-- no line stops step s on day d -/
def opB (h : H2) (c : Nat) (d : Int32) (s : Nat) : Bool := decide (frs (fun l => stB h l (hg h 22 s) (hg h 23 s) (hg h 24 s) (hg h 25 s) d) c = none)
theorem e101 (X : XS) (h : H2) (Q : Option Value → H2 → Prop) (c : Nat) (ad : Nat → Nat) (ok : LsOk h c ad) (s : Nat) (hs : s < 24) (d : Int32) : EC X 101 [.ref 19, .ref 17, .int (nI s), .int d] h Q ↔ Q (some (.int (bz (opB h c d s)))) h := by
  have hc := ok.1
  have kk : (nI s).toNatClampNeg = s := nI_clamp (by omega)
  have b2 := bI s 24 hs (by omega)
  rw [g101, kk, if_neg b2, if_neg b2, if_neg b2, if_neg b2]
  show EC X 3 _ _ _ ↔ _
  rw [e3 X h _ c ad ok, rI_i]
  dsimp only
  have q := oN_9 (frs (fun l => stB h l (hg h 22 s) (hg h 23 s) (hg h 24 s) (hg h 25 s) d) c) c (by omega) (fun b hb => (frs_is hb).1)
  by_cases e : frs (fun l => stB h l (hg h 22 s) (hg h 23 s) (hg h 24 s) (hg h 25 s) d) c = none
  · rw [if_neg (fun z => z (q.mpr e)), show opB h c d s = true from decide_eq_true e]
    exact Iff.rfl
  · rw [if_pos (fun z => e (q.mp z)), show opB h c d s = false from decide_eq_false e]
    exact Iff.rfl
theorem e192 (X : XS) (h : H2) (Q : Option Value → H2 → Prop) (c : Nat) (ad : Nat → Nat) (ok : LsOk h c ad) (s : Nat) (hs : s < 24) (so : StOk h s) (d : Int32) : EC X 192 [.ref 86, .int (nI s), .int d] h Q ↔ Q (some (.int (bz (opB h c d s)))) h := by
  have hc := ok.1
  obtain ⟨x, y, -, -, -, -, -, -, d1, d2, d3, d4⟩ := so
  have kk : (nI s).toNatClampNeg = s := nI_clamp (by omega)
  have b2 := bI s 24 hs (by omega)
  rw [g192, kk, if_neg b2, if_neg b2, if_neg b2, if_neg b2, ← d1, ← d2, ← d3, ← d4]
  show EC X 187 _ _ _ ↔ _
  rw [e187 X h _ c ad ok, rI_i]
  dsimp only
  have q := oN_9 (frs (fun l => stB h l (hg h 22 s) (hg h 23 s) (hg h 24 s) (hg h 25 s) d) c) c (by omega) (fun b hb => (frs_is hb).1)
  by_cases e : frs (fun l => stB h l (hg h 22 s) (hg h 23 s) (hg h 24 s) (hg h 25 s) d) c = none
  · rw [if_neg (fun z => z (q.mpr e)), show opB h c d s = true from decide_eq_true e]
    exact Iff.rfl
  · rw [if_pos (fun z => e (q.mp z)), show opB h c d s = false from decide_eq_false e]
    exact Iff.rfl
theorem opB_r {h h' : H2} {c : Nat} {d : Int32} {s : Nat} (r1 : ∀ b j, 90 ≤ b → b < 97 → j < c → hg h' b j = hg h b j) (r2 : ∀ b, 22 ≤ b → b < 26 → hg h' b s = hg h b s) : opB h' c d s = opB h c d s := by
  unfold opB
  rw [r2 22 (by omega) (by omega), r2 23 (by omega) (by omega), r2 24 (by omega) (by omega), r2 25 (by omega) (by omega)]
  rw [frs_congr (p := fun l => stB h' l (hg h 22 s) (hg h 23 s) (hg h 24 s) (hg h 25 s) d) (q := fun l => stB h l (hg h 22 s) (hg h 23 s) (hg h 24 s) (hg h 25 s) d)]
  intro l hl
  unfold stB inF
  rw [r1 90 l (by omega) (by omega) hl, r1 91 l (by omega) (by omega) hl, r1 92 l (by omega) (by omega) hl, r1 93 l (by omega) (by omega) hl, r1 94 l (by omega) (by omega) hl, r1 95 l (by omega) (by omega) hl, r1 96 l (by omega) (by omega) hl]
