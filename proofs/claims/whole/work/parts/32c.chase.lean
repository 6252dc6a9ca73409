theorem chase_M (X : XS) (h : H2) (Q : Option Value → H2 → Prop) (p0 p1 p2 p3 p4 p5 p6 : Int32) : EC X 250 [.ref 86, .int p0, .int p1, .int p2, .int p3, .int p4, .int p5, .int p6] h Q ↔ (if (0 ≤ p0 ∧ p0 ≤ 30) ∧ (0 ≤ p1 ∧ p1 ≤ 30) ∧ (-3 ≤ p2 ∧ p2 ≤ 3) ∧ (-3 ≤ p3 ∧ p3 ≤ 3) ∧ (0 ≤ p4 ∧ p4 ≤ 30) ∧ (0 ≤ p5 ∧ p5 ≤ 30) ∧ (1 ≤ p6 ∧ p6 ≤ 5) then E X 250 91 [some (.ref 86), some (.int p0), some (.int p1), some (.int p2), some (.int p3), some (.int p4), some (.int p5), some (.int p6), some (.int 1), some (.int 0), none, none, none] [] h Q else Q (some (.int (-2))) h) := by
  rw [g250]
  simp only [cI, e168, rI_i, b2i_0, g250_45, g250_46, n1_0, if_true, if_false]
  by_cases c0 : 0 ≤ p0 ∧ p0 ≤ 30
  · rw [if_neg (fun z => z c0)]
    by_cases c1 : 0 ≤ p1 ∧ p1 ≤ 30
    · rw [if_neg (fun z => z c1)]
      by_cases c2 : -3 ≤ p2 ∧ p2 ≤ 3
      · rw [if_neg (fun z => z c2)]
        by_cases c3 : -3 ≤ p3 ∧ p3 ≤ 3
        · rw [if_neg (fun z => z c3)]
          by_cases c4 : 0 ≤ p4 ∧ p4 ≤ 30
          · rw [if_neg (fun z => z c4)]
            by_cases c5 : 0 ≤ p5 ∧ p5 ≤ 30
            · rw [if_neg (fun z => z c5)]
              by_cases c6 : 1 ≤ p6 ∧ p6 ≤ 5
              · rw [if_pos (fun z => z c6), if_pos ⟨c0, c1, c2, c3, c4, c5, c6⟩]
              · rw [if_neg (fun z => z c6), if_neg (fun z => c6 z.2.2.2.2.2.2)]
            · rw [if_pos c5, if_neg (fun z => c5 z.2.2.2.2.2.1)]
          · rw [if_pos c4, if_neg (fun z => c4 z.2.2.2.2.1)]
        · rw [if_pos c3, if_neg (fun z => c3 z.2.2.2.1)]
      · rw [if_pos c2, if_neg (fun z => c2 z.2.2.1)]
    · rw [if_pos c1, if_neg (fun z => c1 z.2.1)]
  · rw [if_pos c0, if_neg (fun z => c0 z.1)]
theorem chase_D (X : XS) (h : H2) (Q : Option Value → H2 → Prop) (p0 p1 p2 p3 p4 p5 p6 : Int32) : EC X 147 [.ref 5, .int p0, .int p1, .int p2, .int p3, .int p4, .int p5, .int p6] h Q ↔ (if (0 ≤ p0 ∧ p0 ≤ 30) ∧ (0 ≤ p1 ∧ p1 ≤ 30) ∧ (-3 ≤ p2 ∧ p2 ≤ 3) ∧ (-3 ≤ p3 ∧ p3 ≤ 3) ∧ (0 ≤ p4 ∧ p4 ≤ 30) ∧ (0 ≤ p5 ∧ p5 ≤ 30) ∧ (1 ≤ p6 ∧ p6 ≤ 5) then E X 147 55 [some (.ref 5), some (.int p0), some (.int p1), some (.int p2), some (.int p3), some (.int p4), some (.int p5), some (.int p6), some (.int 0), none, none, none] [] h Q else Q (some (.int (-2))) h) := by
  rw [g147]
  simp only [cI, e161, e164, rI_i, b2i_0]
  by_cases c0 : (0 ≤ p0 ∧ p0 ≤ 30) ∧ (0 ≤ p1 ∧ p1 ≤ 30)
  · rw [if_neg (fun z => z c0)]
    by_cases c1 : (0 ≤ p4 ∧ p4 ≤ 30) ∧ (0 ≤ p5 ∧ p5 ≤ 30)
    · rw [if_neg (fun z => z c1)]
      by_cases c2 : -3 ≤ p2 ∧ p2 ≤ 3
      · rw [if_neg (fun z => z c2)]
        by_cases c3 : -3 ≤ p3 ∧ p3 ≤ 3
        · rw [if_neg (fun z => z c3)]
          by_cases c6 : 1 ≤ p6 ∧ p6 ≤ 5
          · rw [if_pos (fun z => z c6), if_pos ⟨c0.1, c0.2, c2, c3, c1.1, c1.2, c6⟩]
          · rw [if_neg (fun z => z c6), if_neg (fun z => c6 z.2.2.2.2.2.2)]
        · rw [if_pos c3, if_neg (fun z => c3 z.2.2.2.1)]
      · rw [if_pos c2, if_neg (fun z => c2 z.2.2.1)]
    · rw [if_pos c1, if_neg (fun z => c1 ⟨z.2.2.2.2.1, z.2.2.2.2.2.1⟩)]
  · rw [if_pos c0, if_neg (fun z => c0 ⟨z.1, z.2.1⟩)]
theorem c_chase (X : XS) (h : H2) (iv : InvM h) (p0 p1 p2 p3 p4 p5 p6 : Int32) : EC X 147 [.ref 5, .int p0, .int p1, .int p2, .int p3, .int p4, .int p5, .int p6] h (fun v1 h1 => EC X 250 [.ref 86, .int p0, .int p1, .int p2, .int p3, .int p4, .int p5, .int p6] h1 (fun v2 h2 => v1 = v2 ∧ InvM h2 ∧ Wr [0, 10] h h2)) := by
  have iv' := iv
  unfold InvM at iv
  rw [chase_D]
  by_cases c : (0 ≤ p0 ∧ p0 ≤ 30) ∧ (0 ≤ p1 ∧ p1 ≤ 30) ∧ (-3 ≤ p2 ∧ p2 ≤ 3) ∧ (-3 ≤ p3 ∧ p3 ≤ 3) ∧ (0 ≤ p4 ∧ p4 ≤ 30) ∧ (0 ≤ p5 ∧ p5 ≤ 30) ∧ (1 ≤ p6 ∧ p6 ≤ 5)
  · rw [if_pos c, e147 X h _ (hg h 86 70) iv, chase_M, if_pos c, e250 X h _ (hg h 86 70) rfl]
    exact ⟨rfl, iv', Wr_refl _ _⟩
  · rw [if_neg c, chase_M, if_neg c]
    exact ⟨rfl, iv', Wr_refl _ _⟩
/-! what is known on a day -/
def kdr (h : H2) (d : Int32) (p : Nat) : Nat → Int32
  | 0 => 0
  | f + 1 => if hg h 68 f ≤ d ∧ ¬ hg h 66 f = -9 ∧ hg h 65 f = nI p then kdr h d p f ||| ((1 : Int32) <<< (hg h 66 f &&& 31)) else kdr h d p f
def khl (h : H2) (d : Int32) (p : Nat) : Nat → Int32
  | 0 => 0
  | f + 1 => if hg h 68 f ≤ d ∧ hg h 66 f = -9 ∧ hg h 65 f = nI p then hg h 67 f else khl h d p f
/-- the program's heap while it learns -/
def lH (g : H2) (r9 r0 : Nat → Int32) : H2 := sR (sR g 69 r9) 70 r0
theorem lH_o (g : H2) (r9 r0 : Nat → Int32) (b j : Nat) (h1 : b ≠ 69) (h2 : b ≠ 70) : hg (lH g r9 r0) b j = hg g b j := by
  unfold lH
  rw [hg_sRn _ h2, hg_sRn _ h1]
theorem lH_9 (g : H2) (r9 r0 : Nat → Int32) (j : Nat) : hg (lH g r9 r0) 69 j = r9 j := by
  unfold lH
  rw [hg_sRn _ (by decide), hg_sRe]
theorem lH_0 (g : H2) (r9 r0 : Nat → Int32) (j : Nat) : hg (lH g r9 r0) 70 j = r0 j := by
  unfold lH
  rw [hg_sRe]
theorem lH_s9 (g : H2) (r9 r0 : Nat → Int32) (i : Nat) (x : Int32) : sI (lH g r9 r0) 69 i x = lH g (upF r9 i x) r0 := by
  refine H2_ext ?_ ?_ ?_ <;> try rfl
  intro b j
  rw [hg_sI]
  by_cases e : b = 69
  · subst e
    rw [lH_9, lH_9]
    by_cases e2 : j = i
    · subst e2; rw [if_pos ⟨rfl, rfl⟩, upF_e]
    · rw [if_neg (fun z => e2 z.2), upF_n e2]
  · rw [if_neg (fun z => e z.1)]
    by_cases e3 : b = 70
    · subst e3; rw [lH_0, lH_0]
    · rw [lH_o _ _ _ _ _ e e3, lH_o _ _ _ _ _ e e3]
theorem lH_s0 (g : H2) (r9 r0 : Nat → Int32) (i : Nat) (x : Int32) : sI (lH g r9 r0) 70 i x = lH g r9 (upF r0 i x) := by
  refine H2_ext ?_ ?_ ?_ <;> try rfl
  intro b j
  rw [hg_sI]
  by_cases e : b = 70
  · subst e
    rw [lH_0, lH_0]
    by_cases e2 : j = i
    · subst e2; rw [if_pos ⟨rfl, rfl⟩, upF_e]
    · rw [if_neg (fun z => e2 z.2), upF_n e2]
  · rw [if_neg (fun z => e z.1)]
    by_cases e3 : b = 69
    · subst e3; rw [lH_9, lH_9]
    · rw [lH_o _ _ _ _ _ e3 e, lH_o _ _ _ _ _ e3 e]
def rw12 (f g : Nat → Int32) : Nat → Int32 := fun j => if j < 12 then f j else g j
theorem rw12_in {f g : Nat → Int32} {j : Nat} (h : j < 12) : rw12 f g j = f j := if_pos h
theorem rw12_up {f f' g : Nat → Int32} {i : Nat} {x : Int32} (hi : i < 12) (h1 : f' i = x) (h2 : ∀ j, j < 12 → j ≠ i → f' j = f j) : upF (rw12 f g) i x = rw12 f' g := by
  funext j
  by_cases e : j = i
  · subst e
    rw [upF_e, rw12_in hi, h1]
  · rw [upF_n e]
    unfold rw12
    by_cases l : j < 12
    · rw [if_pos l, if_pos l, h2 j l e]
    · rw [if_neg l, if_neg l]
/-- the harmless ones -/
def khm (dr hl : Nat → Int32) : Nat → Int32
  | 0 => 0
  | p + 1 => if hl p = 2 then khm dr hl p ||| dr p else khm dr hl p
def lrn (h : H2) (d : Int32) (pp ff : Nat) : H2 := sI (lH h (rw12 (fun p => kdr h d p ff) (hg h 69)) (rw12 (fun p => khl h d p ff) (hg h 70))) 62 8 (khm (fun p => kdr h d p ff) (fun p => khl h d p ff) pp)
theorem e11 (X : XS) (h : H2) (Q : Option Value → H2 → Prop) (cc pp ff : Nat) (ok : KsOk h cc pp ff) (d : Int32) : EC X 11 [.ref 62, .int d] h Q ↔ Q none (lrn h d pp ff) := by
  obtain ⟨h1, h2, h3, a1, a2, b1, b2, d1, d2, t, ks, fs⟩ := ok
  have k2 : ∀ i p g, p + i = pp → g = lH h (rw12 (fun p => kdr h d p ff) (hg h 69)) (rw12 (fun p => khl h d p ff) (hg h 70)) → (E X 11 54 [some (.ref 62), some (.int d), some (.int (nI p))] [] (sI g 62 8 (khm (fun p => kdr h d p ff) (fun p => khl h d p ff) p)) Q ↔ Q none (lrn h d pp ff)) := by
    intro i
    induction i with
    | zero =>
      intro p g hp eg
      have : p = pp := by omega
      subst this
      rw [g11_54, hg_nj _ (by decide), eg, lH_o _ _ _ _ _ (by decide) (by decide), b1, if_pos (nI_le (Nat.le_refl _) (by omega))]
      exact Iff.rfl
    | succ i ih =>
      intro p g hp eg
      have kp : (nI p).toNatClampNeg = p := nI_clamp (by omega)
      have bp := bI p 12 (show p < 12 by omega) (by omega)
      have i1 := ih (p + 1) g (by omega) eg
      have em : khm (fun p => kdr h d p ff) (fun p => khl h d p ff) (p + 1) = if khl h d p ff = 2 then khm (fun p => kdr h d p ff) (fun p => khl h d p ff) p ||| kdr h d p ff else khm (fun p => kdr h d p ff) (fun p => khl h d p ff) p := rfl
      have r10 : hg g 62 10 = nI pp := by rw [eg, lH_o _ _ _ _ _ (by decide) (by decide), b1]
      have r70 : hg g 70 p = khl h d p ff := by rw [eg, lH_0, rw12_in (by omega)]
      have r69 : hg g 69 p = kdr h d p ff := by rw [eg, lH_9, rw12_in (by omega)]
      have q10 : ∀ K, hg (sI g 62 8 K) 62 10 = nI pp := fun K => by rw [hg_nj _ (by decide), r10]
      have q70 : ∀ K, hg (sI g 62 8 K) 70 p = khl h d p ff := fun K => by rw [hg_ne _ (by decide), r70]
      have q69 : ∀ K, hg (sI g 62 8 K) 69 p = kdr h d p ff := fun K => by rw [hg_ne _ (by decide), r69]
      have q8 : ∀ K, hg (sI g 62 8 K) 62 8 = K := fun K => hg_eq _ _ _ _
      rw [g11_54, q10, if_neg (nI_ge (by omega) (by omega)), kp, if_neg bp, if_neg bp, q70, q69, q8, sI_sI, nI_1]
      by_cases q : khl h d p ff = 2
      · rw [em, if_pos q] at i1
        rw [if_neg (fun z => z q)]
        exact i1
      · rw [em, if_neg q] at i1
        rw [if_pos q]
        exact i1
  have k1 : ∀ i f, f + i = ff → (E X 11 18 [some (.ref 62), some (.int d), some (.int (nI f))] [] (lH h (rw12 (fun p => kdr h d p f) (hg h 69)) (rw12 (fun p => khl h d p f) (hg h 70))) Q ↔ Q none (lrn h d pp ff)) := by
    intro i
    induction i with
    | zero =>
      intro f hf
      have : f = ff := by omega
      subst this
      rw [g11_18, lH_o _ _ _ _ _ (by decide) (by decide), d1, if_pos (nI_le (Nat.le_refl _) (by omega))]
      exact k2 pp 0 _ (by omega) rfl
    | succ i ih =>
      intro f hf
      have i1 := ih (f + 1) (by omega)
      have kf : (nI f).toNatClampNeg = f := nI_clamp (by omega)
      have bf := bI f 60 (show f < 60 by omega) (by omega)
      obtain ⟨p, dd, hp', hdd, p1, p2, e1, e2, o⟩ := fs f (by omega)
      have hp : p < 12 := by omega
      have kp : (nI p).toNatClampNeg = p := nI_clamp (by omega)
      have bp := bI p 12 hp (by omega)
      have er : ∀ q, kdr h d q (f + 1) = if hg h 68 f ≤ d ∧ ¬ hg h 66 f = -9 ∧ hg h 65 f = nI q then kdr h d q f ||| ((1 : Int32) <<< (hg h 66 f &&& 31)) else kdr h d q f := fun q => rfl
      have eh : ∀ q, khl h d q (f + 1) = if hg h 68 f ≤ d ∧ hg h 66 f = -9 ∧ hg h 65 f = nI q then hg h 67 f else khl h d q f := fun q => rfl
      rw [g11_18, lH_o _ _ _ _ _ (by decide) (by decide), d1, if_neg (nI_ge (by omega) (by omega)), kf, if_neg bf, lH_o _ _ _ _ _ (by decide) (by decide), nI_1]
      by_cases c1 : d < hg h 68 f
      · rw [if_pos c1]
        have n1 : ¬ hg h 68 f ≤ d := Int32.not_le.mpr c1
        have s1 : (fun p => kdr h d p (f + 1)) = fun p => kdr h d p f := funext fun q => by rw [er, if_neg (fun z => n1 z.1)]
        have s2 : (fun p => khl h d p (f + 1)) = fun p => khl h d p f := funext fun q => by rw [eh, if_neg (fun z => n1 z.1)]
        rw [s1, s2] at i1
        exact i1
      · rw [if_neg c1]
        have y1 : hg h 68 f ≤ d := i_nlt.mp c1
        show EC X 12 _ _ _ ↔ _
        have r65 : ∀ r9 r0, hg (lH h r9 r0) 65 f = nI p := fun r9 r0 => by rw [lH_o _ _ _ _ _ (by decide) (by decide), p1]
        have r66 : ∀ r9 r0, hg (lH h r9 r0) 66 f = hg h 66 f := fun r9 r0 => lH_o _ _ _ _ _ (by decide) (by decide)
        have r67 : ∀ r9 r0, hg (lH h r9 r0) 67 f = hg h 67 f := fun r9 r0 => lH_o _ _ _ _ _ (by decide) (by decide)
        rw [g12, kf, if_neg bf, if_neg bf, if_neg bf, if_neg bf, r65, r66, r67, kp, if_neg bp, if_neg bp, if_neg bp]
        have ne : ∀ q, q < 12 → q ≠ p → ¬ hg h 65 f = nI q := by
          intro q hq hqp z
          rw [p1, nI_eq (by omega) (by omega)] at z
          exact hqp z.symm
        by_cases c2 : hg h 66 f = -9
        · rw [if_neg (fun z => z c2), rV_n, lH_s0]
          dsimp only
          rw [rw12_up (f' := fun p => khl h d p (f + 1)) hp (by rw [eh, if_pos ⟨y1, c2, p1⟩]) (fun j hj hjp => by rw [eh, if_neg (fun z => ne j hj hjp z.2.2)])]
          have s1 : (fun p => kdr h d p (f + 1)) = fun p => kdr h d p f := funext fun q => by rw [er, if_neg (fun z => z.2.1 c2)]
          rw [s1] at i1
          exact i1
        · rw [if_pos c2, rV_n, lH_s9, lH_9, rw12_in hp]
          dsimp only
          rw [rw12_up (f' := fun p => kdr h d p (f + 1)) hp (by rw [er, if_pos ⟨y1, c2, p1⟩]) (fun j hj hjp => by rw [er, if_neg (fun z => ne j hj hjp z.2.2)])]
          have s2 : (fun p => khl h d p (f + 1)) = fun p => khl h d p f := funext fun q => by rw [eh, if_neg (fun z => c2 z.2.1)]
          rw [s2] at i1
          exact i1
  rw [g11]
  show EC X 270 _ _ _ ↔ _
  rw [e270 X h _ 69 12 (by decide) (by decide) rfl (by decide), rV_n]
  show EC X 270 _ _ _ ↔ _
  rw [e270 X _ _ 70 12 (by decide) (by decide) rfl (by decide), rV_n]
  have s0 : sF (sF h 69 0 12 0) 70 0 12 0 = lH h (rw12 (fun p => kdr h d p 0) (hg h 69)) (rw12 (fun p => khl h d p 0) (hg h 70)) := by
    refine H2_ext ?_ ?_ ?_ <;> try rfl
    intro b j
    by_cases e : b = 70
    · subst e
      rw [hg_sF, lH_0]
      unfold rw12
      by_cases l : j < 12
      · rw [if_pos ⟨rfl, by omega, by omega⟩, if_pos l]; rfl
      · rw [if_neg (by omega), if_neg l, hg_sFn _ (by decide)]
    · rw [hg_sFn _ e]
      by_cases e2 : b = 69
      · subst e2
        rw [hg_sF, lH_9]
        unfold rw12
        by_cases l : j < 12
        · rw [if_pos ⟨rfl, by omega, by omega⟩, if_pos l]; rfl
        · rw [if_neg (by omega), if_neg l]
      · rw [hg_sFn _ e2, lH_o _ _ _ _ _ e2 e]
  dsimp only
  rw [s0]
  exact k1 ff 0 (by omega)
