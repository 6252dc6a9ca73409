/-! casks, persons, facts -/
def FcOk (h : H2) (cc pp f : Nat) : Prop := ∃ p dd : Nat, p < pp ∧ dd ≤ 99 ∧ hg h 65 f = nI p ∧ hg h 118 f = nI p ∧ hg h 68 f = nI dd ∧ hg h 121 f = nI dd ∧ ((hg h 66 f = -9 ∧ hg h 119 f = -9 ∧ ((hg h 67 f = 1 ∧ hg h 120 f = 1) ∨ (hg h 67 f = 2 ∧ hg h 120 f = 0))) ∨ ∃ c : Nat, c < cc ∧ hg h 66 f = nI c ∧ hg h 119 f = nI c)
def KsOk (h : H2) (cc pp ff : Nat) : Prop := cc ≤ 12 ∧ pp ≤ 12 ∧ ff ≤ 60 ∧ hg h 62 9 = nI cc ∧ hg h 86 40 = nI cc ∧ hg h 62 10 = nI pp ∧ hg h 86 43 = nI pp ∧ hg h 62 11 = nI ff ∧ hg h 86 44 = nI ff ∧ hg h 62 12 = hg h 86 1 ∧ (∀ j, j < cc → hg h 63 j = hg h 116 j ∧ hg h 64 j = hg h 117 j) ∧ (∀ f, f < ff → FcOk h cc pp f)
def InvK (h : H2) : Prop := ∃ cc pp ff, KsOk h cc pp ff
theorem FcOk_r {h h' : H2} {cc cc' pp pp' f : Nat} (hc : cc ≤ cc') (hpp : pp ≤ pp') (o : FcOk h cc pp f) (hr : ∀ b, (65 ≤ b ∧ b < 69) ∨ (118 ≤ b ∧ b < 122) → hg h' b f = hg h b f) : FcOk h' cc' pp' f := by
  obtain ⟨p, dd, hp, hd, a1, a2, b1, b2, o⟩ := o
  refine ⟨p, dd, by omega, hd, ?_, ?_, ?_, ?_, ?_⟩
  · rw [hr _ (by omega), a1]
  · rw [hr _ (by omega), a2]
  · rw [hr _ (by omega), b1]
  · rw [hr _ (by omega), b2]
  · rw [hr 66 (by omega), hr 67 (by omega), hr 119 (by omega), hr 120 (by omega)]
    rcases o with o | ⟨c, h1, h2, h3⟩
    · exact Or.inl o
    · exact Or.inr ⟨c, by omega, h2, h3⟩
theorem KsOk_w {h h' : H2} {cc pp ff : Nat} (o : KsOk h cc pp ff) (hr : ∀ b j, (63 ≤ b ∧ b < 69) ∨ (116 ≤ b ∧ b < 122) ∨ (b = 62 ∧ 9 ≤ j ∧ j < 12) ∨ (b = 86 ∧ (j = 40 ∨ j = 43 ∨ j = 44)) → hg h' b j = hg h b j) (ht : hg h' 62 12 = hg h' 86 1) : KsOk h' cc pp ff := by
  obtain ⟨h1, h2, h3, a1, a2, b1, b2, d1, d2, t, ks, fs⟩ := o
  refine ⟨h1, h2, h3, ?_, ?_, ?_, ?_, ?_, ?_, ht, ?_, ?_⟩
  · rw [hr _ _ (by omega), a1]
  · rw [hr _ _ (by omega), a2]
  · rw [hr _ _ (by omega), b1]
  · rw [hr _ _ (by omega), b2]
  · rw [hr _ _ (by omega), d1]
  · rw [hr _ _ (by omega), d2]
  · intro j hj
    rw [hr _ _ (by omega), hr _ _ (by omega), hr _ _ (by omega), hr _ _ (by omega)]
    exact ks j hj
  · intro f hf
    exact FcOk_r (Nat.le_refl _) (Nat.le_refl _) (fs f hf) (fun b hb => hr b f (by omega))
theorem e8 (X : XS) (h : H2) (Q : Option Value → H2 → Prop) (p0 : Int32) : EC X 8 [.ref 62, .int p0] h Q ↔ Q (some (.int (b2i (0 ≤ p0 ∧ p0 ≤ hg h 62 9 - 1)))) h := by
  rw [g8]
  simp only [cI, e161, rI_i, b01_b2i, cond_true]
theorem e9 (X : XS) (h : H2) (Q : Option Value → H2 → Prop) (p0 : Int32) : EC X 9 [.ref 62, .int p0] h Q ↔ Q (some (.int (b2i (0 ≤ p0 ∧ p0 ≤ hg h 62 10 - 1)))) h := by
  rw [g9]
  simp only [cI, e161, rI_i, b01_b2i, cond_true]
theorem e215 (X : XS) (h : H2) (Q : Option Value → H2 → Prop) (p0 : Int32) : EC X 215 [.ref 86, .int p0] h Q ↔ Q (some (.int (b2i (0 ≤ p0 ∧ p0 < hg h 86 40)))) h := by
  rw [g215]
  rw [mdl_b2i (R := fun x => Q (some (.int x)) h)]
theorem e216 (X : XS) (h : H2) (Q : Option Value → H2 → Prop) (p0 : Int32) : EC X 216 [.ref 86, .int p0] h Q ↔ Q (some (.int (b2i (0 ≤ p0 ∧ p0 < hg h 86 43)))) h := by
  rw [g216]
  rw [mdl_b2i (R := fun x => Q (some (.int x)) h)]
theorem e8n (X : XS) (h : H2) (Q : Option Value → H2 → Prop) (c : Nat) (hc : c ≤ 12) (e : hg h 62 9 = nI c) (p0 : Int32) : EC X 8 [.ref 62, .int p0] h Q ↔ Q (some (.int (b2i (0 ≤ p0 ∧ p0 < nI c)))) h := by
  rw [e8, e]
  have q := inR_c (v := p0) (show c < 2 ^ 31 by omega)
  by_cases z : 0 ≤ p0 ∧ p0 < nI c
  · rw [b2i_t z, b2i_t (q.mpr z)]
  · rw [b2i_f z, b2i_f (fun w => z (q.mp w))]
theorem e9n (X : XS) (h : H2) (Q : Option Value → H2 → Prop) (c : Nat) (hc : c ≤ 12) (e : hg h 62 10 = nI c) (p0 : Int32) : EC X 9 [.ref 62, .int p0] h Q ↔ Q (some (.int (b2i (0 ≤ p0 ∧ p0 < nI c)))) h := by
  rw [e9, e]
  have q := inR_c (v := p0) (show c < 2 ^ 31 by omega)
  by_cases z : 0 ≤ p0 ∧ p0 < nI c
  · rw [b2i_t z, b2i_t (q.mpr z)]
  · rw [b2i_f z, b2i_f (fun w => z (q.mp w))]
theorem n12 {c : Nat} (hc : c ≤ 12) : (nI c = 12 ↔ c = 12) := by
  have e : (12 : Int32) = nI 12 := by decide
  rw [e, nI_eq (by omega) (by omega)]
theorem c_cask (X : XS) (h : H2) (iv : InvK h) (p0 p1 : Int32) : EC X 127 [.ref 5, .int p0, .int p1] h (fun v1 h1 => EC X 217 [.ref 86, .int p0, .int p1] h1 (fun v2 h2 => v1 = v2 ∧ InvK h2 ∧ Wr [0, 6] h h2)) := by
  have iv' := iv
  obtain ⟨cc, pp, ff, h1, h2, h3, a1, a2, b1, b2, d1, d2, t, ks, fs⟩ := iv
  have fin0 : InvK h ∧ Wr [0, 6] h h := ⟨iv', Wr_refl _ _⟩
  rw [g127]
  simp only [cI, e161, rI_i, b2i_0]
  by_cases q0 : 0 ≤ p0 ∧ p0 ≤ 2
  · rw [if_neg (fun z => z q0)]
    by_cases q1 : 0 ≤ p1 ∧ p1 ≤ 99
    · rw [if_neg (fun z => z q1), g6, a1]
      have kc : (nI cc).toNatClampNeg = cc := nI_clamp (by omega)
      by_cases hf : cc = 12
      · rw [if_neg (fun z => z ((n12 h1).mpr hf)), rI_i, g217]
        simp only [cI, e168, rI_i, b2i_0, q0, q1, and_self, not_true, not_false_iff, if_true, if_false, a2]
        rw [if_neg (fun z => z ((n12 h1).mpr hf))]
        exact ⟨trivial, fin0⟩
      · have bc := bI cc 12 (show cc < 12 by omega) (by omega)
        have nf : ¬ nI cc = 12 := fun z => hf ((n12 h1).mp z)
        rw [if_pos nf, kc, if_neg bc, if_neg bc, rI_i, nI_1, nI_pred]
        have f40 : ∀ x y z, hg (sI (sI (sI h 63 cc x) 64 cc y) 62 9 z) 86 40 = nI cc := fun x y z => by rw [hg_ne _ (by decide), hg_ne _ (by decide), hg_ne _ (by decide), a2]
        rw [g217]
        simp only [cI, e168, rI_i, b2i_0, q0, q1, and_self, not_true, not_false_iff, if_true, if_false, f40, nf, kc, bc, nI_1, nI_pred]
        have m6 : (6 : Nat) ∈ [0, 6] := by decide
        refine ⟨trivial, ⟨cc + 1, pp, ff, by omega, h2, h3, ?_, ?_, ?_, ?_, ?_, ?_, ?_, ?_, ?_⟩, Wr_sI (Wr_sI (Wr_sI (Wr_sI (Wr_sI (Wr_sI (Wr_refl _ _) m6) m6) m6) m6) m6) m6⟩
        · simp [hg_sI]
        · simp [hg_sI]
        · simp [hg_sI, b1]
        · simp [hg_sI, b2]
        · simp [hg_sI, d1]
        · simp [hg_sI, d2]
        · simp [hg_sI, t]
        · intro j hj
          by_cases e : j = cc
          · subst e
            simp [hg_sI]
          · simpa [hg_sI, e] using ks j (by omega)
        · intro f hf'
          refine FcOk_r (by omega) (by omega) (fs f hf') (fun b hb => ?_)
          rw [hg_ne _ (by omega), hg_ne _ (by omega), hg_ne _ (by omega), hg_ne _ (by omega), hg_ne _ (by omega), hg_ne _ (by omega)]
    · rw [if_pos q1, g217]
      simp only [cI, e168, rI_i, b2i_0, q0, q1, and_self, not_true, not_false_iff, if_false]
      exact ⟨trivial, fin0⟩
  · rw [if_pos q0, g217]
    simp only [cI, e168, rI_i, b2i_0, q0, not_false_iff, if_true]
    exact ⟨trivial, fin0⟩
theorem c_person (X : XS) (h : H2) (iv : InvK h) : EC X 128 [.ref 5] h (fun v1 h1 => EC X 218 [.ref 86] h1 (fun v2 h2 => v1 = v2 ∧ InvK h2 ∧ Wr [0, 6] h h2)) := by
  have iv' := iv
  obtain ⟨cc, pp, ff, h1, h2, h3, a1, a2, b1, b2, d1, d2, t, ks, fs⟩ := iv
  rw [g128]
  show EC X 7 _ _ _
  rw [g7, b1]
  by_cases hf : pp = 12
  · rw [if_neg (fun z => z ((n12 h2).mpr hf)), rI_i]
    dsimp only
    rw [g218, b2, if_neg (fun z => z ((n12 h2).mpr hf))]
    exact ⟨rfl, iv', Wr_refl _ _⟩
  · have nf : ¬ nI pp = 12 := fun z => hf ((n12 h2).mp z)
    rw [if_pos nf, rI_i, nI_1, nI_pred]
    dsimp only
    rw [g218, hg_ne _ (by decide), b2, if_pos nf, nI_1, nI_pred]
    have m6 : (6 : Nat) ∈ [0, 6] := by decide
    refine ⟨rfl, ⟨cc, pp + 1, ff, h1, by omega, h3, ?_, ?_, ?_, ?_, ?_, ?_, ?_, ?_, ?_⟩, Wr_sI (Wr_sI (Wr_refl _ _) m6) m6⟩
    · simp [hg_sI, a1]
    · simp [hg_sI, a2]
    · simp [hg_sI]
    · simp [hg_sI]
    · simp [hg_sI, d1]
    · simp [hg_sI, d2]
    · simp [hg_sI, t]
    · intro j hj
      simpa [hg_sI] using ks j hj
    · intro f hf'
      refine FcOk_r (by omega) (by omega) (fs f hf') (fun b hb => ?_)
      rw [hg_ne _ (by omega), hg_ne _ (by omega)]
/-- a fact is added on both sides -/
theorem fact_add (X : XS) (h : H2) (iv : InvK h) (cc pp ff : Nat) (ok : KsOk h cc pp ff) (p dd : Nat) (hp : p < pp) (hd : dd ≤ 99) (x1 x2 y2 : Int32) (ho : (x1 = -9 ∧ ((x2 = 1 ∧ vp_nar .boolean y2 = 1) ∨ (x2 = 2 ∧ vp_nar .boolean y2 = 0))) ∨ ∃ c : Nat, c < cc ∧ x1 = nI c) :
    EC X 10 [.ref 62, .int (nI p), .int x1, .int x2, .int (nI dd)] h (fun v1 h1 => EC X 219 [.ref 86, .int (nI p), .int x1, .int y2, .int (nI dd)] h1 (fun v2 h2 => v1 = v2 ∧ (∃ x, v1 = some (.int x)) ∧ InvK h2 ∧ Wr [0, 6] h h2)) := by
  obtain ⟨h1, h2, h3, a1, a2, b1, b2, d1, d2, t, ks, fs⟩ := ok
  have e60 : (60 : Int32) = nI 60 := by decide
  have kf : (nI ff).toNatClampNeg = ff := nI_clamp (by omega)
  rw [g10, d1]
  by_cases hf : ff = 60
  · rw [if_neg (fun z => z (by rw [hf]; rfl)), g219, d2, if_neg (fun z => z (by rw [hf]; rfl))]
    exact ⟨rfl, ⟨_, rfl⟩, iv, Wr_refl _ _⟩
  · have nf : ¬ nI ff = 60 := by rw [e60, nI_eq (by omega) (by omega)]; exact hf
    have bf := bI ff 60 (show ff < 60 by omega) (by omega)
    rw [if_pos nf, kf, if_neg bf, if_neg bf, if_neg bf, if_neg bf, nI_1, nI_pred]
    have f44 : ∀ x y z w v, hg (sI (sI (sI (sI (sI h 65 ff x) 66 ff y) 67 ff z) 68 ff w) 62 11 v) 86 44 = nI ff := fun x y z w v => by rw [hg_ne _ (by decide), hg_ne _ (by decide), hg_ne _ (by decide), hg_ne _ (by decide), hg_ne _ (by decide), d2]
    rw [g219, f44, if_pos nf, kf, if_neg bf, if_neg bf, if_neg bf, if_neg bf, nI_1, nI_pred]
    have m6 : (6 : Nat) ∈ [0, 6] := by decide
    refine ⟨rfl, ⟨_, rfl⟩, ⟨cc, pp, ff + 1, h1, h2, by omega, ?_, ?_, ?_, ?_, ?_, ?_, ?_, ?_, ?_⟩, Wr_sI (Wr_sI (Wr_sI (Wr_sI (Wr_sI (Wr_sI (Wr_sI (Wr_sI (Wr_sI (Wr_sI (Wr_refl _ _) m6) m6) m6) m6) m6) m6) m6) m6) m6) m6⟩
    · simp [hg_sI, a1]
    · simp [hg_sI, a2]
    · simp [hg_sI, b1]
    · simp [hg_sI, b2]
    · simp [hg_sI]
    · simp [hg_sI]
    · simp [hg_sI, t]
    · intro j hj
      simpa [hg_sI] using ks j hj
    · intro f hf'
      by_cases e : f = ff
      · subst e
        refine ⟨p, dd, hp, hd, ?_, ?_, ?_, ?_, ?_⟩
        · simp [hg_sI]
        · simp [hg_sI]
        · simp [hg_sI]
        · simp [hg_sI]
        · rcases ho with ⟨o1, o2⟩ | ⟨c, o1, o2⟩
          · left
            refine ⟨?_, ?_, ?_⟩
            · simp [hg_sI, o1]
            · simp [hg_sI, o1]
            · simpa [hg_sI] using o2
          · right
            refine ⟨c, o1, ?_, ?_⟩
            · simp [hg_sI, o2]
            · simp [hg_sI, o2]
      · refine FcOk_r (by omega) (by omega) (fs f (by omega)) (fun b hb => ?_)
        rw [hg_ne _ (by omega), hg_nj _ e, hg_nj _ e, hg_nj _ e, hg_nj _ e, hg_ne _ (by omega), hg_nj _ e, hg_nj _ e, hg_nj _ e, hg_nj _ e]
theorem nar0 : vp_nar .boolean 0 = 0 := by decide
theorem nar1 : vp_nar .boolean 1 = 1 := by decide
theorem day_n {d : Int32} (h : 0 ≤ d ∧ d ≤ 99) : ∃ k : Nat, k ≤ 99 ∧ d = nI k := by
  have e : (99 : Int32) = nI 99 := by decide
  rw [e] at h
  exact rng0 (by omega) h
theorem c_drank (X : XS) (h : H2) (iv : InvK h) (p0 p1 p2 : Int32) : EC X 129 [.ref 5, .int p0, .int p1, .int p2] h (fun v1 h1 => EC X 220 [.ref 86, .int p0, .int p1, .int p2] h1 (fun v2 h2 => v1 = v2 ∧ InvK h2 ∧ Wr [0, 6] h h2)) := by
  have iv' := iv
  obtain ⟨cc, pp, ff, ok⟩ := iv
  have ok' := ok
  obtain ⟨h1, h2, h3, a1, a2, b1, b2, d1, d2, t, ks, fs⟩ := ok
  have fin0 : InvK h ∧ Wr [0, 6] h h := ⟨iv', Wr_refl _ _⟩
  have md0 : ∀ (g : H2) R, hg g 86 43 = nI pp → hg g 86 40 = nI cc → (EC X 220 [.ref 86, .int p0, .int p1, .int p2] g R ↔ if ¬ (0 ≤ p0 ∧ p0 < nI pp) then R (some (.int (-1))) g else if ¬ (0 ≤ p1 ∧ p1 < nI cc) then R (some (.int (-1))) g else if ¬ (0 ≤ p2 ∧ p2 ≤ 99) then R (some (.int (-2))) g else EC X 219 [.ref 86, .int p0, .int p1, .int 0, .int p2] g (fun v h7 => rI v False fun x => R (some (.int x)) h7)) := by
    intro g R g1 g2
    rw [g220]
    simp only [cI, e216, e215, e169, rI_i, b2i_0, g1, g2]
    by_cases c1 : 0 ≤ p0 ∧ p0 < nI pp
    · rw [if_neg (show ¬ ¬ (0 ≤ p0 ∧ p0 < nI pp) from fun z => z c1), if_neg (show ¬ ¬ (0 ≤ p0 ∧ p0 < nI pp) from fun z => z c1)]
      by_cases c2 : 0 ≤ p1 ∧ p1 < nI cc
      · rw [if_pos (show ¬ ¬ (0 ≤ p1 ∧ p1 < nI cc) from fun z => z c2), if_neg (show ¬ ¬ (0 ≤ p1 ∧ p1 < nI cc) from fun z => z c2)]
      · rw [if_neg (show ¬ ¬ ¬ (0 ≤ p1 ∧ p1 < nI cc) from fun z => z c2), if_pos c2]
    · rw [if_pos c1, if_pos c1]
  rw [g129]
  show EC X 9 _ _ _
  rw [e9n X h _ pp h2 b1, rI_i]
  dsimp only
  by_cases c1 : 0 ≤ p0 ∧ p0 < nI pp
  · rw [b2i_t c1, if_neg n1_0]
    show EC X 8 _ _ _
    rw [e8n X h _ cc h1 a1, rI_i]
    dsimp only
    by_cases c2 : 0 ≤ p1 ∧ p1 < nI cc
    · rw [b2i_t c2, if_pos n1_0]
      show EC X 162 _ _ _
      rw [e162, rI_i]
      dsimp only
      by_cases c3 : 0 ≤ p2 ∧ p2 ≤ 99
      · rw [b2i_t c3, if_neg n1_0]
        show EC X 10 _ _ _
        obtain ⟨p, hp, rfl⟩ := (inR_lt (show pp < 2 ^ 31 by omega)).mp c1
        obtain ⟨c, hc, rfl⟩ := (inR_lt (show cc < 2 ^ 31 by omega)).mp c2
        obtain ⟨dd, hd, rfl⟩ := day_n c3
        have r1 : EC X 10 [.ref 62, .int (nI p), .int (nI c), .int 0, .int (nI dd)] h (fun _ h1 => hg h1 86 43 = nI pp ∧ hg h1 86 40 = nI cc) := by
          rw [g10]
          have kf : (nI ff).toNatClampNeg = ff := nI_clamp (by omega)
          have e60 : (60 : Int32) = nI 60 := by decide
          rw [d1]
          by_cases hf : ff = 60
          · rw [if_neg (fun z => z (by rw [hf]; rfl))]
            exact ⟨b2, a2⟩
          · have nf : ¬ nI ff = 60 := by rw [e60, nI_eq (by omega) (by omega)]; exact hf
            have bf := bI ff 60 (show ff < 60 by omega) (by omega)
            rw [if_pos nf, kf, if_neg bf, if_neg bf, if_neg bf, if_neg bf]
            constructor
            · rw [hg_ne _ (by decide), hg_ne _ (by decide), hg_ne _ (by decide), hg_ne _ (by decide), hg_ne _ (by decide), b2]
            · rw [hg_ne _ (by decide), hg_ne _ (by decide), hg_ne _ (by decide), hg_ne _ (by decide), hg_ne _ (by decide), a2]
        have r2 := fact_add X h iv' cc pp ff ok' p dd (by omega) hd (nI c) 0 0 (Or.inr ⟨c, hc, rfl⟩)
        obtain ⟨n, v, h', hrun, q1, q2⟩ := r1
        obtain ⟨v2, h2', q3, q4⟩ := Ev.both ⟨n, v, h', hrun, rfl, rfl⟩ r2 (Q := fun v' h'' => v' = v ∧ h'' = h')
        obtain ⟨rfl, rfl⟩ := q3
        refine ⟨n, v2, h2', hrun, ?_⟩
        obtain ⟨n2, w, h3', hrun2, e1, ⟨x, e2⟩, e3, e4⟩ := q4
        subst e2
        rw [rI_i]
        dsimp only
        rw [md0 _ _ q1 q2, if_neg (fun z => z c1), if_neg (show ¬ ¬ (0 ≤ nI c ∧ nI c < nI cc) from fun z => z c2), if_neg (show ¬ ¬ (0 ≤ nI dd ∧ nI dd ≤ 99) from fun z => z c3)]
        refine ⟨n2, w, h3', hrun2, ?_⟩
        rw [← e1]
        exact ⟨rfl, e3, e4⟩
      · rw [b2i_f c3, if_pos rfl, md0 _ _ b2 a2, if_neg (fun z => z c1), if_neg (show ¬ ¬ (0 ≤ p1 ∧ p1 < nI cc) from fun z => z c2), if_pos c3]
        exact ⟨rfl, fin0⟩
    · rw [b2i_f c2, if_neg (fun z => z rfl), md0 _ _ b2 a2, if_neg (fun z => z c1), if_pos c2]
      exact ⟨rfl, fin0⟩
  · rw [b2i_f c1, if_pos rfl, md0 _ _ b2 a2, if_pos c1]
    exact ⟨rfl, fin0⟩
theorem c_fell (X : XS) (h : H2) (iv : InvK h) (p0 p1 p2 : Int32) (hb : p1 = 0 ∨ p1 = 1) : EC X 130 [.ref 5, .int p0, .int p1, .int p2] h (fun v1 h1 => EC X 221 [.ref 86, .int p0, .int p1, .int p2] h1 (fun v2 h2 => v1 = v2 ∧ InvK h2 ∧ Wr [0, 6] h h2)) := by
  have iv' := iv
  obtain ⟨cc, pp, ff, ok⟩ := iv
  have ok' := ok
  obtain ⟨h1, h2, h3, a1, a2, b1, b2, d1, d2, t, ks, fs⟩ := ok
  have fin0 : InvK h ∧ Wr [0, 6] h h := ⟨iv', Wr_refl _ _⟩
  have md0 : ∀ (g : H2) R, hg g 86 43 = nI pp → (EC X 221 [.ref 86, .int p0, .int p1, .int p2] g R ↔ if ¬ (0 ≤ p0 ∧ p0 < nI pp) then R (some (.int (-1))) g else if ¬ (0 ≤ p2 ∧ p2 ≤ 99) then R (some (.int (-2))) g else EC X 219 [.ref 86, .int p0, .int (-9), .int p1, .int p2] g (fun v h7 => rI v False fun x => R (some (.int x)) h7)) := by
    intro g R g1
    rw [g221]
    simp only [cI, e216, e169, rI_i, b2i_0, g1]
    by_cases c1 : 0 ≤ p0 ∧ p0 < nI pp
    · rw [if_pos (show ¬ ¬ (0 ≤ p0 ∧ p0 < nI pp) from fun z => z c1), if_neg (show ¬ ¬ (0 ≤ p0 ∧ p0 < nI pp) from fun z => z c1)]
    · rw [if_neg (show ¬ ¬ ¬ (0 ≤ p0 ∧ p0 < nI pp) from fun z => z c1), if_pos c1]
  rw [g130]
  show EC X 9 _ _ _
  rw [e9n X h _ pp h2 b1, rI_i]
  dsimp only
  by_cases c1 : 0 ≤ p0 ∧ p0 < nI pp
  · rw [b2i_t c1, if_pos n1_0]
    have go : ∀ x2 : Int32, ((x2 = 1 ∧ vp_nar .boolean p1 = 1) ∨ (x2 = 2 ∧ vp_nar .boolean p1 = 0)) → EC X 162 [.int p2] h (fun v h3 => rI v False fun x4 => if x4 = 0 then EC X 221 [.ref 86, .int p0, .int p1, .int p2] h3 (fun v2 h2 => some (.int (-2)) = v2 ∧ InvK h2 ∧ Wr [0, 6] h h2) else EC X 10 [.ref 62, .int p0, .int (-9), .int x2, .int p2] h3 (fun v h5 => rI v False fun x6 => EC X 221 [.ref 86, .int p0, .int p1, .int p2] h5 (fun v2 h2 => some (.int x6) = v2 ∧ InvK h2 ∧ Wr [0, 6] h h2))) := by
      intro x2 hx
      rw [e162, rI_i]
      by_cases c3 : 0 ≤ p2 ∧ p2 ≤ 99
      · rw [b2i_t c3, if_neg n1_0]
        obtain ⟨p, hp, rfl⟩ := (inR_lt (show pp < 2 ^ 31 by omega)).mp c1
        obtain ⟨dd, hd, rfl⟩ := day_n c3
        have r1 : EC X 10 [.ref 62, .int (nI p), .int (-9), .int x2, .int (nI dd)] h (fun _ h1 => hg h1 86 43 = nI pp) := by
          rw [g10]
          have kf : (nI ff).toNatClampNeg = ff := nI_clamp (by omega)
          have e60 : (60 : Int32) = nI 60 := by decide
          rw [d1]
          by_cases hf : ff = 60
          · rw [if_neg (fun z => z (by rw [hf]; rfl))]
            exact b2
          · have nf : ¬ nI ff = 60 := by rw [e60, nI_eq (by omega) (by omega)]; exact hf
            have bf := bI ff 60 (show ff < 60 by omega) (by omega)
            rw [if_pos nf, kf, if_neg bf, if_neg bf, if_neg bf, if_neg bf]
            rw [hg_ne _ (by decide), hg_ne _ (by decide), hg_ne _ (by decide), hg_ne _ (by decide), hg_ne _ (by decide), b2]
        have r2 := fact_add X h iv' cc pp ff ok' p dd (by omega) hd (-9) x2 p1 (Or.inl ⟨rfl, hx⟩)
        obtain ⟨n, v, h', hrun, q1⟩ := r1
        obtain ⟨v2, h2', q3, q4⟩ := Ev.both ⟨n, v, h', hrun, rfl, rfl⟩ r2 (Q := fun v' h'' => v' = v ∧ h'' = h')
        obtain ⟨rfl, rfl⟩ := q3
        refine ⟨n, v2, h2', hrun, ?_⟩
        obtain ⟨n2, w, h3', hrun2, e1, ⟨x, e2⟩, e3, e4⟩ := q4
        subst e2
        rw [rI_i, md0 _ _ q1, if_neg (fun z => z c1), if_neg (show ¬ ¬ (0 ≤ nI dd ∧ nI dd ≤ 99) from fun z => z c3)]
        refine ⟨n2, w, h3', hrun2, ?_⟩
        rw [← e1]
        exact ⟨rfl, e3, e4⟩
      · rw [b2i_f c3, if_pos rfl, md0 _ _ b2, if_neg (fun z => z c1), if_pos c3]
        exact ⟨rfl, fin0⟩
    rcases hb with rfl | rfl
    · rw [if_pos rfl]
      exact go 2 (Or.inr ⟨rfl, nar0⟩)
    · rw [if_neg n1_0]
      exact go 1 (Or.inl ⟨rfl, nar1⟩)
  · rw [b2i_f c1, if_neg (fun z => z rfl), md0 _ _ b2, if_pos c1]
    exact ⟨rfl, fin0⟩
theorem c_trace (X : XS) (h : H2) (iv : InvK h) : EC X 158 [.ref 5] h (fun v1 h1 => EC X 263 [.ref 86] h1 (fun v2 h2 => v1 = v2 ∧ InvK h2 ∧ Wr [0, 6] h h2)) := by
  have iv' := iv
  obtain ⟨cc, pp, ff, h1, h2, h3, a1, a2, b1, b2, d1, d2, t, ks, fs⟩ := iv
  rw [g158, g263, t]
  exact ⟨rfl, iv', Wr_refl _ _⟩
/-- the trail is left on both sides -/
def tr2 (h : H2) (x y : Int32) : H2 := sI (sI h 62 12 x) 86 1 y
theorem tr2_ok {h : H2} {cc pp ff : Nat} (o : KsOk h cc pp ff) (x : Int32) : InvK (sI (sI h 62 12 x) 86 1 x) ∧ Wr [0, 6] h (sI (sI h 62 12 x) 86 1 x) := by
  have m6 : (6 : Nat) ∈ [0, 6] := by decide
  refine ⟨⟨cc, pp, ff, KsOk_w o ?_ ?_⟩, Wr_sI (Wr_sI (Wr_refl _ _) m6) m6⟩
  · intro b j hb
    rw [hg_sI, if_neg (by omega), hg_sI, if_neg (by omega)]
  · rw [hg_ne _ (by decide), hg_eq, hg_eq]
theorem c_hang (X : XS) (h : H2) (iv : InvK h) (p0 : Int32) : EC X 156 [.ref 5, .int p0] h (fun v1 h1 => EC X 261 [.ref 86, .int p0] h1 (fun v2 h2 => v1 = v2 ∧ InvK h2 ∧ Wr [0, 6] h h2)) := by
  have iv' := iv
  obtain ⟨cc, pp, ff, ok⟩ := iv
  have ok' := ok
  obtain ⟨h1, h2, h3, a1, a2, b1, b2, d1, d2, t, ks, fs⟩ := ok
  rw [g156]
  show EC X 8 _ _ _
  rw [e8n X h _ cc h1 a1, rI_i]
  dsimp only
  by_cases c1 : 0 ≤ p0 ∧ p0 < nI cc
  · rw [b2i_t c1, if_neg n1_0]
    obtain ⟨c, hc, rfl⟩ := (inR_lt (show cc < 2 ^ 31 by omega)).mp c1
    have kc : (nI c).toNatClampNeg = c := nI_clamp (by omega)
    have bc := bI c 12 (show c < 12 by omega) (by omega)
    obtain ⟨k1, k2⟩ := ks c hc
    have md : ∀ x R, EC X 261 [.ref 86, .int (nI c)] (sI h 62 12 x) R ↔ if ¬ hg h 63 c = 2 then R (some (.int (nI c))) (sI (sI h 62 12 x) 86 1 (31 * hg h 86 1 + 4)) else R (some (.int 45)) (sI (sI h 62 12 x) 86 1 (31 * hg h 86 1 + 5)) := by
      intro x R
      have r40 : hg (sI h 62 12 x) 86 40 = nI cc := by rw [hg_ne _ (by decide), a2]
      have r1 : hg (sI h 62 12 x) 86 1 = hg h 86 1 := by rw [hg_ne _ (by decide)]
      have r116 : ∀ y, hg (sI (sI h 62 12 x) 86 1 y) 116 c = hg h 63 c := fun y => by rw [hg_ne _ (by decide), hg_ne _ (by decide), k1]
      have r116' : hg (sI h 62 12 x) 116 c = hg h 63 c := by rw [hg_ne _ (by decide), k1]
      rw [g261]
      show EC X 215 _ _ _ ↔ _
      rw [e215, rI_i, r40, b2i_t c1]
      dsimp only
      rw [if_pos n1_0, kc, if_neg bc, r116']
      by_cases q : hg h 63 c = 2
      · rw [if_neg (fun z => z q), if_neg (fun z => z q)]
        show EC X 258 _ _ _ ↔ _
        rw [g258, rV_n, r1]
        dsimp only
        rw [if_neg bc, r116, if_neg (fun z => z q)]
      · rw [if_pos q, if_pos q]
        show EC X 258 _ _ _ ↔ _
        rw [g258, rV_n, r1]
        dsimp only
        rw [if_neg bc, r116, if_pos q]
    show EC X 26 _ _ _
    have z0 : (0 : Int32) = 0 := rfl
    rw [g26, kc, if_neg bc]
    by_cases q : hg h 63 c = 2
    · rw [if_neg (fun z => z q), if_neg n1_0]
      show EC X 20 _ _ _
      rw [g20, rV_n]
      dsimp only
      rw [if_neg n1_0, rI_i, t, md, if_neg (fun z => z q)]
      exact ⟨rfl, tr2_ok ok' _⟩
    · rw [if_pos q, if_pos z0]
      show EC X 20 _ _ _
      rw [g20, rV_n]
      dsimp only
      rw [if_pos z0, rI_i, t, md, if_pos q]
      exact ⟨rfl, tr2_ok ok' _⟩
  · rw [b2i_f c1, if_pos rfl, g261]
    show EC X 215 _ _ _
    rw [e215, rI_i, a2, b2i_f c1]
    dsimp only
    rw [if_neg (fun z => z rfl)]
    exact ⟨rfl, iv', Wr_refl _ _⟩
def InvHK (h : H2) : Prop := InvH h ∧ InvK h
theorem InvHK_f {h : H2} (iv : InvHK h) (x : Int32) : InvHK (sI (sI h 6 4 x) 86 0 x) ∧ Wr [0, 1, 6] h (sI (sI h 6 4 x) 86 0 x) := by
  obtain ⟨ivH, cc, pp, ff, ok⟩ := iv
  have t := ok.2.2.2.2.2.2.2.2.2.1
  refine ⟨⟨InvH_f ivH x, cc, pp, ff, KsOk_w ok ?_ ?_⟩, Wr_f (Wr_refl _ _) x (by decide)⟩
  · intro b j hb
    rw [hg_sI, if_neg (by omega), hg_ne _ (by omega)]
  · rw [hg_ne _ (by decide), hg_ne _ (by decide), hg_nj _ (by decide), hg_ne _ (by decide), t]
theorem c_as (X : XS) (h : H2) (iv : InvHK h) (p0 p1 : Int32) : EC X 157 [.ref 5, .int p0, .int p1] h (fun v1 h1 => EC X 262 [.ref 86, .int p0, .int p1] h1 (fun v2 h2 => v1 = v2 ∧ InvHK h2 ∧ Wr [0, 1, 6] h h2)) := by
  have iv' := iv
  obtain ⟨ivH, cc, pp, ff, h1, h2, h3, a1, a2, b1, b2, d1, d2, t, ks, fs⟩ := iv
  have md : ∀ x R, EC X 262 [.ref 86, .int p0, .int p1] (sI h 6 4 x) R ↔ EC X 215 [.ref 86, .int p0] (sI (sI h 6 4 x) 86 0 0) (fun v h1 => rI v False fun x2 => if ¬ x2 = 0 then cI X 168 [.int p1, .int (0 : Int32), .int (2 : Int32)] h1 (fun x4 h3 => if ¬ x4 = 0 then (if p0 < 0 ∨ 12 ≤ p0.toNatClampNeg then False else if (hg h3 116 p0.toNatClampNeg) < p1 then cI X 166 [.ref 86, .int (2 : Int32)] h3 (fun x6 h5 => R (some (.int x6)) h5) else R (some (.int (1 : Int32))) h3) else R (some (.int (-2 : Int32))) h3) else R (some (.int (-1 : Int32))) h1) := fun x R => g262 X _ R p0 p1
  have r40 : ∀ x, hg (sI (sI h 6 4 x) 86 0 0) 86 40 = nI cc := fun x => by rw [hg_nj _ (by decide), hg_ne _ (by decide), a2]
  rw [g157]
  show EC X 8 _ _ _
  rw [e8n X _ _ cc h1 (by rw [hg_ne _ (by decide), a1]), rI_i]
  dsimp only
  by_cases c1 : 0 ≤ p0 ∧ p0 < nI cc
  · rw [b2i_t c1, if_pos n1_0]
    show EC X 161 _ _ _
    rw [e161, rI_i]
    dsimp only
    by_cases c2 : 0 ≤ p1 ∧ p1 ≤ 2
    · rw [b2i_t c2, if_pos n1_0]
      obtain ⟨c, hc, rfl⟩ := (inR_lt (show cc < 2 ^ 31 by omega)).mp c1
      have kc : (nI c).toNatClampNeg = c := nI_clamp (by omega)
      have bc := bI c 12 (show c < 12 by omega) (by omega)
      obtain ⟨k1, k2⟩ := ks c hc
      have r116 : ∀ x, hg (sI (sI h 6 4 x) 86 0 0) 116 c = hg h 63 c := fun x => by rw [hg_ne _ (by decide), hg_ne _ (by decide), k1]
      rw [kc, if_neg bc, hg_ne _ (by decide)]
      by_cases q : hg h 63 c < p1
      · rw [if_pos q]
        show EC X 79 _ _ _
        rw [g79, rI_i, sI_sI]
        dsimp only
        rw [md, e215, rI_i, r40, b2i_t c1, if_pos n1_0]
        show EC X 168 _ _ _
        rw [e168, rI_i, b2i_t c2]
        dsimp only
        rw [if_pos n1_0, kc, if_neg bc, r116, if_pos q]
        show EC X 166 _ _ _
        rw [g166, rI_i, sI_sI]
        exact ⟨rfl, InvHK_f iv' 2⟩
      · rw [if_neg q, md, e215, rI_i, r40, b2i_t c1, if_pos n1_0]
        show EC X 168 _ _ _
        rw [e168, rI_i, b2i_t c2]
        dsimp only
        rw [if_pos n1_0, kc, if_neg bc, r116, if_neg q]
        exact ⟨rfl, InvHK_f iv' 0⟩
    · rw [b2i_f c2, if_neg (fun z => z rfl), md, e215, rI_i, r40, b2i_t c1, if_pos n1_0]
      show EC X 168 _ _ _
      rw [e168, rI_i, b2i_f c2]
      dsimp only
      rw [if_neg (fun z => z rfl)]
      exact ⟨rfl, InvHK_f iv' 0⟩
  · rw [b2i_f c1, if_neg (fun z => z rfl), md, e215, rI_i, r40, b2i_f c1, if_neg (fun z => z rfl)]
    exact ⟨rfl, InvHK_f iv' 0⟩
