/-! cut, knew -/
theorem kdr_congr {h h' : H2} {d : Int32} {p : Nat} : ∀ {ff : Nat}, (∀ f, f < ff → hg h' 65 f = hg h 65 f ∧ hg h' 66 f = hg h 66 f ∧ hg h' 68 f = hg h 68 f) → kdr h' d p ff = kdr h d p ff := by
  intro ff
  induction ff with
  | zero => intro _; rfl
  | succ ff ih =>
    intro hh
    obtain ⟨q1, q2, q3⟩ := hh ff (by omega)
    unfold kdr
    rw [ih (fun f hf => hh f (by omega)), q1, q2, q3]
theorem khl_congr {h h' : H2} {d : Int32} {p : Nat} : ∀ {ff : Nat}, (∀ f, f < ff → hg h' 65 f = hg h 65 f ∧ hg h' 66 f = hg h 66 f ∧ hg h' 67 f = hg h 67 f ∧ hg h' 68 f = hg h 68 f) → khl h' d p ff = khl h d p ff := by
  intro ff
  induction ff with
  | zero => intro _; rfl
  | succ ff ih =>
    intro hh
    obtain ⟨q1, q2, q3, q4⟩ := hh ff (by omega)
    unfold khl
    rw [ih (fun f hf => hh f (by omega)), q1, q2, q3, q4]
/-- only the scratch of the program's casks, or of the reference's, has changed -/
def KpK (h g : H2) : Prop := (∀ b j, b ≠ 69 → b ≠ 70 → ¬ (b = 62 ∧ j = 8) → b ≠ 122 → ¬ (b = 86 ∧ 50 ≤ j ∧ j < 56) → hg g b j = hg h b j) ∧ g.1 = h.1 ∧ g.2.2 = h.2.2
theorem KpK_refl (h : H2) : KpK h h := ⟨fun _ _ _ _ _ _ _ => rfl, rfl, rfl⟩
theorem KpK_trans {h g k : H2} (a : KpK h g) (b : KpK g k) : KpK h k := ⟨fun x j z1 z2 z3 z4 z5 => by rw [b.1 x j z1 z2 z3 z4 z5, a.1 x j z1 z2 z3 z4 z5], by rw [b.2.1, a.2.1], by rw [b.2.2, a.2.2]⟩
theorem KpK_Ks {h g : H2} {cc pp ff : Nat} (a : KpK h g) (o : KsOk h cc pp ff) : KsOk g cc pp ff := by
  have t := o.2.2.2.2.2.2.2.2.2.1
  refine KsOk_w o (fun b j hb => a.1 b j (by omega) (by omega) (by omega) (by omega) (by omega)) ?_
  rw [a.1 _ _ (by decide) (by decide) (by omega) (by decide) (by omega), a.1 _ _ (by decide) (by decide) (by omega) (by decide) (by omega), t]
theorem KpK_Wr {h g : H2} (a : KpK h g) : Wr [0, 6] h g := by
  refine ⟨fun b j q => ?_, fun _ b j => ?_, fun _ => ⟨a.2.1, by rw [a.2.2]⟩⟩
  · apply a.1
    · rintro rfl; exact q (List.mem_cons_self ..)
    · rintro rfl; exact q (List.mem_cons_self ..)
    · rintro ⟨rfl, rfl⟩; exact q (List.mem_cons_self ..)
    · rintro rfl; exact q (List.mem_cons_self ..)
    · rintro ⟨rfl, z1, z2⟩
      have : j = 50 ∨ j = 51 ∨ j = 52 ∨ j = 53 ∨ j = 54 ∨ j = 55 := by omega
      rcases this with rfl | rfl | rfl | rfl | rfl | rfl <;> exact q (List.mem_cons_self ..)
  · show g.2.2.1 b j = h.2.2.1 b j
    rw [a.2.2]
theorem lrn_K (h : H2) (d : Int32) (pp ff : Nat) : KpK h (lrn h d pp ff) := by
  refine ⟨fun b j z1 z2 z3 z4 z5 => ?_, rfl, rfl⟩
  unfold lrn
  rw [hg_sI, if_neg z3, lH_o _ _ _ _ _ z1 z2]
theorem mCK_K (h : H2) (r : Nat → Int32) (i w a b c d : Int32) : KpK h (mC (mK h r i w) a b c d) := by
  refine ⟨fun x j z1 z2 z3 z4 z5 => ?_, rfl, rfl⟩
  rw [mC_o _ _ _ _ _ _ _ (by omega), mK_o _ _ _ _ _ _ (by omega) z4]
theorem DOk_l (h : H2) (cc pp ff : Nat) (o : KsOk h cc pp ff) (d : Int32) : DOk (lrn h d pp ff) (fun p => kdr h d p ff) (fun p => khl h d p ff) pp cc := by
  obtain ⟨h1, h2, h3, a1, a2, b1, b2, d1, d2, t, ks, fs⟩ := o
  refine ⟨h1, h2, ?_, ?_, ?_, ?_, ?_⟩
  · unfold lrn
    rw [hg_nj _ (by decide), lH_o _ _ _ _ _ (by decide) (by decide), a1]
  · unfold lrn
    rw [hg_nj _ (by decide), lH_o _ _ _ _ _ (by decide) (by decide), b1]
  · unfold lrn
    rw [hg_eq]
  · intro p hp
    unfold lrn
    rw [hg_ne _ (by decide), lH_9, rw12_in (by omega)]
  · intro p hp
    unfold lrn
    rw [hg_ne _ (by decide), lH_0, rw12_in (by omega)]
theorem MOk_l (h : H2) (cc pp ff : Nat) (o : KsOk h cc pp ff) (d : Int32) : MOk (mK h (rw12 (fun p => kdr h d p ff) (hg h 122)) (kil h d ff) (kwl h d ff)) (fun p => kdr h d p ff) (fun p => khl h d p ff) pp cc := by
  obtain ⟨h1, h2, h3, a1, a2, b1, b2, d1, d2, t, ks, fs⟩ := o
  have kb := kil_bt h d cc pp h1 h2 ff fs
  refine ⟨h1, h2, ?_, ?_, ?_, ?_, ?_⟩
  · rw [mK_o _ _ _ _ _ _ (by omega) (by decide), a2]
  · rw [mK_o _ _ _ _ _ _ (by omega) (by decide), b2]
  · intro p hp
    rw [mK_r, rw12_in (by omega)]
  · intro p hp
    rw [mK_i]
    exact (kb p (by omega)).1
  · intro p hp
    rw [mK_w]
    exact (kb p (by omega)).2.1
def ctF (h : H2) (d : Int32) (pp ff : Nat) : Nat → Bool := fun s => cutB (fun p => kdr h d p ff) (fun p => khl h d p ff) pp (nI s)
theorem ctF_K {h g : H2} (a : KpK h g) (d : Int32) (pp ff : Nat) : ctF g d pp ff = ctF h d pp ff := by
  unfold ctF
  have r : ∀ f, hg g 65 f = hg h 65 f ∧ hg g 66 f = hg h 66 f ∧ hg g 67 f = hg h 67 f ∧ hg g 68 f = hg h 68 f := fun f => ⟨a.1 _ _ (by decide) (by decide) (by omega) (by decide) (by omega), a.1 _ _ (by decide) (by decide) (by omega) (by decide) (by omega), a.1 _ _ (by decide) (by decide) (by omega) (by decide) (by omega), a.1 _ _ (by decide) (by decide) (by omega) (by decide) (by omega)⟩
  have e1 : (fun p => kdr g d p ff) = fun p => kdr h d p ff := funext fun p => kdr_congr (fun f _ => ⟨(r f).1, (r f).2.1, (r f).2.2.2⟩)
  have e2 : (fun p => khl g d p ff) = fun p => khl h d p ff := funext fun p => khl_congr (fun f _ => r f)
  rw [e1, e2]
theorem khl_K {h g : H2} (a : KpK h g) (d : Int32) (ff p : Nat) : khl g d p ff = khl h d p ff := khl_congr (fun f _ => ⟨a.1 _ _ (by decide) (by decide) (by omega) (by decide) (by omega), a.1 _ _ (by decide) (by decide) (by omega) (by decide) (by omega), a.1 _ _ (by decide) (by decide) (by omega) (by decide) (by omega), a.1 _ _ (by decide) (by decide) (by omega) (by decide) (by omega)⟩)
/-- findCuts -/
theorem e225 (X : XS) (h : H2) (Q : Option Value → H2 → Prop) (cc pp ff : Nat) (o : KsOk h cc pp ff) (d : Int32) : EC X 225 [.ref 86, .int d] h Q ↔ Q none (mC (mK h (rw12 (fun p => kdr h d p ff) (hg h 122)) (kil h d ff) (kwl h d ff)) (nI (cnt (ctF h d pp ff) (2 ^ cc))) (fewF (ctF h d pp ff) (2 ^ cc)) (falF (ctF h d pp ff) (2 ^ cc)) (fsoF (ctF h d pp ff) (2 ^ cc))) := by
  rw [g225]
  show EC X 222 _ _ _ ↔ _
  rw [e222 X h _ cc pp ff o d, rV_n]
  dsimp only
  rw [mC_0]
  exact e225l X _ Q _ _ pp cc (MOk_l h cc pp ff o d) d _ rfl
theorem who_eq (h : H2) (d : Int32) (cc pp ff : Nat) (o : KsOk h cc pp ff) : pwF (fun p => khl h d p ff) 1 pp = kil h d ff ∧ pwF (fun p => khl h d p ff) 2 pp = kwl h d ff := by
  obtain ⟨h1, h2, h3, a1, a2, b1, b2, d1, d2, t, ks, fs⟩ := o
  have kb := kil_bt h d cc pp h1 h2 ff fs
  constructor
  · refine b_ext (fun i hi => ?_)
    obtain ⟨k1, k2, k3⟩ := kb i hi
    rw [pw_bt _ _ i pp h2, k1]
    by_cases l : i < pp
    · rw [decide_eq_true l, Bool.true_and]
    · rw [decide_eq_false l, Bool.false_and, k3 (by omega)]
      rfl
  · refine b_ext (fun i hi => ?_)
    obtain ⟨k1, k2, k3⟩ := kb i hi
    rw [pw_bt _ _ i pp h2, k2]
    by_cases l : i < pp
    · rw [decide_eq_true l, Bool.true_and]
    · rw [decide_eq_false l, Bool.false_and, k3 (by omega)]
      rfl
theorem kil_K {h g : H2} {cc pp ff : Nat} (a : KpK h g) (o : KsOk h cc pp ff) (d : Int32) : kil g d ff = kil h d ff ∧ kwl g d ff = kwl h d ff := by
  have w1 := who_eq h d cc pp ff o
  have w2 := who_eq g d cc pp ff (KpK_Ks a o)
  have e : (fun p => khl g d p ff) = fun p => khl h d p ff := funext fun p => khl_K a d ff p
  rw [e] at w2
  exact ⟨w2.1.symm.trans w1.1, w2.2.symm.trans w1.2⟩
theorem c_cut (X : XS) (h : H2) (iv : InvK h) (p0 p1 : Int32) : EC X 131 [.ref 5, .int p0, .int p1] h (fun v1 h1 => EC X 226 [.ref 86, .int p0, .int p1] h1 (fun v2 h2 => v1 = v2 ∧ InvK h2 ∧ Wr [0, 6] h h2)) := by
  have iv' := iv
  obtain ⟨cc, pp, ff, o⟩ := iv
  rw [g131]
  show EC X 162 _ _ _
  rw [e162, rI_i]
  dsimp only
  by_cases c1 : 0 ≤ p0 ∧ p0 ≤ 99
  · rw [b2i_t c1, if_neg n1_0]
    show EC X 161 _ _ _
    rw [e161, rI_i]
    dsimp only
    by_cases c2 : 0 ≤ p1 ∧ p1 ≤ 5
    · rw [b2i_t c2, if_pos n1_0]
      show EC X 11 _ _ _
      rw [e11 X h _ cc pp ff o, rV_n]
      dsimp only
      have dk := DOk_l h cc pp ff o p0
      have kk := lrn_K h p0 pp ff
      have ok2 := KpK_Ks kk o
      generalize eg : lrn h p0 pp ff = g at *
      have wh := who_eq h p0 cc pp ff o
      have kl := kil_K kk o p0
      have md : ∀ R, EC X 226 [.ref 86, .int p0, .int p1] g R ↔ (if p1 = 0 then R (some (.int (nI (cnt (ctF h p0 pp ff) (2 ^ cc))))) else if p1 = 1 then R (some (.int (fewF (ctF h p0 pp ff) (2 ^ cc)))) else if p1 = 2 then R (some (.int (falF (ctF h p0 pp ff) (2 ^ cc)))) else if p1 = 3 then R (some (.int (fsoF (ctF h p0 pp ff) (2 ^ cc)))) else if p1 = 4 then R (some (.int (kil h p0 ff))) else R (some (.int (kwl h p0 ff)))) (mC (mK g (rw12 (fun p => kdr g p0 p ff) (hg g 122)) (kil g p0 ff) (kwl g p0 ff)) (nI (cnt (ctF g p0 pp ff) (2 ^ cc))) (fewF (ctF g p0 pp ff) (2 ^ cc)) (falF (ctF g p0 pp ff) (2 ^ cc)) (fsoF (ctF g p0 pp ff) (2 ^ cc))) := by
        intro R
        rw [g226]
        show EC X 169 _ _ _ ↔ _
        rw [e169, rI_i, b2i_t c1]
        dsimp only
        rw [if_neg n1_0]
        show EC X 168 _ _ _ ↔ _
        rw [e168, rI_i, b2i_t c2]
        dsimp only
        rw [if_pos n1_0]
        show EC X 225 _ _ _ ↔ _
        rw [e225 X g _ cc pp ff ok2, rV_n]
        dsimp only
        rw [mC_a, mC_b, mC_c, mC_d, mC_o _ _ _ _ _ _ _ (by omega), mC_o _ _ _ _ _ _ _ (by omega), mK_i, mK_w, ctF_K kk, kl.1, kl.2]
        by_cases q0 : p1 = 0
        · rw [if_pos q0, if_pos q0]
        rw [if_neg q0, if_neg q0]
        by_cases q1 : p1 = 1
        · rw [if_pos q1, if_pos q1]
        rw [if_neg q1, if_neg q1]
        by_cases q2 : p1 = 2
        · rw [if_pos q2, if_pos q2]
        rw [if_neg q2, if_neg q2]
        by_cases q3 : p1 = 3
        · rw [if_pos q3, if_pos q3]
        rw [if_neg q3, if_neg q3]
        by_cases q4 : p1 = 4
        · rw [if_pos q4, if_pos q4]
        rw [if_neg q4, if_neg q4]
      have fin : InvK (mC (mK g (rw12 (fun p => kdr g p0 p ff) (hg g 122)) (kil g p0 ff) (kwl g p0 ff)) (nI (cnt (ctF g p0 pp ff) (2 ^ cc))) (fewF (ctF g p0 pp ff) (2 ^ cc)) (falF (ctF g p0 pp ff) (2 ^ cc)) (fsoF (ctF g p0 pp ff) (2 ^ cc))) ∧ Wr [0, 6] h (mC (mK g (rw12 (fun p => kdr g p0 p ff) (hg g 122)) (kil g p0 ff) (kwl g p0 ff)) (nI (cnt (ctF g p0 pp ff) (2 ^ cc))) (fewF (ctF g p0 pp ff) (2 ^ cc)) (falF (ctF g p0 pp ff) (2 ^ cc)) (fsoF (ctF g p0 pp ff) (2 ^ cc))) := by
        have k2 := KpK_trans kk (mCK_K g (rw12 (fun p => kdr g p0 p ff) (hg g 122)) (kil g p0 ff) (kwl g p0 ff) (nI (cnt (ctF g p0 pp ff) (2 ^ cc))) (fewF (ctF g p0 pp ff) (2 ^ cc)) (falF (ctF g p0 pp ff) (2 ^ cc)) (fsoF (ctF g p0 pp ff) (2 ^ cc)))
        exact ⟨⟨cc, pp, ff, KpK_Ks k2 o⟩, KpK_Wr k2⟩
      by_cases q0 : p1 = 0
      · rw [if_pos q0]
        show EC X 14 _ _ _
        rw [e14 X g _ _ _ pp cc dk, rI_i]
        dsimp only
        rw [md, if_pos q0]
        exact ⟨rfl, fin⟩
      rw [if_neg q0]
      by_cases q1 : p1 = 1
      · rw [if_pos q1]
        show EC X 15 _ _ _
        rw [e15 X g _ _ _ pp cc dk, rI_i]
        dsimp only
        rw [md, if_neg q0, if_pos q1]
        exact ⟨rfl, fin⟩
      rw [if_neg q1]
      by_cases q2 : p1 = 2
      · rw [if_pos q2]
        show EC X 17 _ _ _
        rw [e17 X g _ _ _ pp cc dk, rI_i]
        dsimp only
        rw [md, if_neg q0, if_neg q1, if_pos q2]
        exact ⟨rfl, fin⟩
      rw [if_neg q2]
      by_cases q3 : p1 = 3
      · rw [if_pos q3]
        show EC X 16 _ _ _
        rw [e16 X g _ _ _ pp cc dk, rI_i]
        dsimp only
        rw [md, if_neg q0, if_neg q1, if_neg q2, if_pos q3]
        exact ⟨rfl, fin⟩
      rw [if_neg q3]
      by_cases q4 : p1 = 4
      · rw [if_pos q4]
        show EC X 18 _ _ _
        rw [e18 X g _ _ _ pp cc dk, rI_i]
        dsimp only
        rw [md, if_neg q0, if_neg q1, if_neg q2, if_neg q3, if_pos q4, wh.1]
        exact ⟨rfl, fin⟩
      · rw [if_neg q4]
        show EC X 18 _ _ _
        rw [e18 X g _ _ _ pp cc dk, rI_i]
        dsimp only
        rw [md, if_neg q0, if_neg q1, if_neg q2, if_neg q3, if_neg q4, wh.2]
        exact ⟨rfl, fin⟩
    · rw [b2i_f c2, if_neg (fun z => z rfl), g226]
      show EC X 169 _ _ _
      rw [e169, rI_i, b2i_t c1]
      dsimp only
      rw [if_neg n1_0]
      show EC X 168 _ _ _
      rw [e168, rI_i, b2i_f c2]
      dsimp only
      rw [if_neg (fun z => z rfl)]
      exact ⟨rfl, iv', Wr_refl _ _⟩
  · rw [b2i_f c1, if_pos rfl, g226]
    show EC X 169 _ _ _
    rw [e169, rI_i, b2i_f c1]
    dsimp only
    rw [if_pos rfl]
    exact ⟨rfl, iv', Wr_refl _ _⟩
/-- is cask c known to be poison on day d -/
def knB (h : H2) (cc pp ff c : Nat) (d : Nat) : Bool := bt (falF (ctF h (nI d) pp ff) (2 ^ cc)) c
theorem knew_D (X : XS) (h : H2) (Q : Option Value → H2 → Prop) (cc pp ff : Nat) (o : KsOk h cc pp ff) (c : Nat) (hc : c < 12) (hq : ∀ g, KpK h g → Q (some (.int (oN (frs (knB h cc pp ff c) 100)))) g) : EC X 19 [.ref 62, .int (nI c)] h Q := by
  have e100 : (100 : Int32) = nI 100 := by decide
  have key : ∀ i d g, d + i = 100 → KpK h g → (∀ j, j < d → knB h cc pp ff c j = false) → E X 19 2 [some (.ref 62), some (.int (nI c)), some (.int (nI d))] [] g Q := by
    intro i
    induction i with
    | zero =>
      intro d g hd kg hf
      have : d = 100 := by omega
      subst this
      rw [g19_2, if_pos (by rw [e100]; exact nI_le (Nat.le_refl _) (by omega))]
      have := hq g kg
      rw [frs_none hf] at this
      exact this
    | succ i ih =>
      intro d g hd kg hf
      have og := KpK_Ks kg o
      rw [g19_2, if_neg (by rw [e100]; exact nI_ge (by omega) (by omega))]
      show EC X 11 _ _ _
      rw [e11 X g _ cc pp ff og, rV_n]
      dsimp only
      show EC X 17 _ _ _
      rw [e17 X _ _ _ _ pp cc (DOk_l g cc pp ff og (nI d)), rI_i]
      dsimp only
      have k2 := KpK_trans kg (lrn_K g (nI d) pp ff)
      have ek : falF (fun s => cutB (fun p => kdr g (nI d) p ff) (fun p => khl g (nI d) p ff) pp (nI s)) (2 ^ cc) = falF (ctF h (nI d) pp ff) (2 ^ cc) := by
        show falF (ctF g (nI d) pp ff) (2 ^ cc) = _
        rw [ctF_K kg]
      rw [ek, nI_1]
      by_cases q : knB h cc pp ff c d = true
      · rw [if_neg (fun z => (bit0 _ (by omega)).mp z q)]
        have := hq _ k2
        rw [frs_some q hf (by omega)] at this
        exact this
      · rw [if_pos ((bit0 _ (by omega)).mpr q)]
        refine ih (d + 1) _ (by omega) k2 (fun j hj => ?_)
        by_cases e : j = d
        · subst e
          cases hh : knB h cc pp ff c j with
          | true => exact absurd hh q
          | false => rfl
        · exact hf j (by omega)
  rw [g19]
  exact key 100 0 h (by omega) (KpK_refl h) (fun j hj => by omega)
def anF (h : H2) (ff : Nat) (d : Nat) : Bool := anyB (fun f => decide (hg h 121 f = nI d)) ff
theorem e227 (X : XS) (h : H2) (Q : Option Value → H2 → Prop) (ff : Nat) (hf : ff ≤ 60) (d2 : hg h 86 44 = nI ff) (d : Nat) : EC X 227 [.ref 86, .int (nI d)] h Q ↔ Q (some (.int (bz (anF h ff d)))) h := by
  have key : ∀ i f, f + i = ff → (∀ j, j < f → decide (hg h 121 j = nI d) = false) → (E X 227 2 [some (.ref 86), some (.int (nI d)), some (.int (nI f))] [] h Q ↔ Q (some (.int (bz (anF h ff d)))) h) := by
    intro i
    induction i with
    | zero =>
      intro f hff hn
      have : f = ff := by omega
      subst this
      rw [g227_2, d2, if_pos (nI_le (Nat.le_refl _) (by omega)), show anF h f d = false from anyB_false.mpr hn]
      exact Iff.rfl
    | succ i ih =>
      intro f hff hn
      have kf : (nI f).toNatClampNeg = f := nI_clamp (by omega)
      rw [g227_2, d2, if_neg (nI_ge (by omega) (by omega)), kf, if_neg (bI f 60 (by omega) (by omega)), nI_1]
      by_cases q : hg h 121 f = nI d
      · rw [if_neg (fun z => z q), show anF h ff d = true from anyB_iff.mpr ⟨f, by omega, decide_eq_true q⟩]
        exact Iff.rfl
      · rw [if_pos q]
        refine ih (f + 1) (by omega) (fun j hj => ?_)
        by_cases e : j = f
        · subst e; exact decide_eq_false q
        · exact hn j (by omega)
  rw [g227]
  exact key ff 0 (by omega) (fun j hj => by omega)
/-- a day of which nothing is told is as the day ahead of it -/
theorem kn_same (h : H2) (cc pp ff c d : Nat) (o : KsOk h cc pp ff) (hd : d < 99) (hn : anF h ff (d + 1) = false) : knB h cc pp ff c (d + 1) = knB h cc pp ff c d := by
  obtain ⟨h1, h2, h3, a1, a2, b1, b2, d1, d2, t, ks, fs⟩ := o
  have le : ∀ f, f < ff → (hg h 68 f ≤ nI (d + 1) ↔ hg h 68 f ≤ nI d) := by
    intro f hf
    obtain ⟨p, dd, hp, hdd, p1, p2, e1, e2, -⟩ := fs f hf
    have ne := of_decide_eq_false (anyB_false.mp hn f hf)
    rw [e2, nI_eq (by omega) (by omega)] at ne
    rw [e1, nI_leI (by omega) (by omega), nI_leI (by omega) (by omega)]
    omega
  have k1 : ∀ p n, n ≤ ff → kdr h (nI (d + 1)) p n = kdr h (nI d) p n := by
    intro p n
    induction n with
    | zero => intro _; rfl
    | succ n ih =>
      intro hnf
      unfold kdr
      rw [ih (by omega)]
      have l := le n (by omega)
      by_cases q : hg h 68 n ≤ nI d ∧ ¬ hg h 66 n = -9 ∧ hg h 65 n = nI p
      · rw [if_pos q, if_pos ⟨l.mpr q.1, q.2⟩]
      · rw [if_neg q, if_neg (fun z => q ⟨l.mp z.1, z.2⟩)]
  have k2 : ∀ p n, n ≤ ff → khl h (nI (d + 1)) p n = khl h (nI d) p n := by
    intro p n
    induction n with
    | zero => intro _; rfl
    | succ n ih =>
      intro hnf
      unfold khl
      rw [ih (by omega)]
      have l := le n (by omega)
      by_cases q : hg h 68 n ≤ nI d ∧ hg h 66 n = -9 ∧ hg h 65 n = nI p
      · rw [if_pos q, if_pos ⟨l.mpr q.1, q.2⟩]
      · rw [if_neg q, if_neg (fun z => q ⟨l.mp z.1, z.2⟩)]
  unfold knB ctF
  have e1 : (fun p => kdr h (nI (d + 1)) p ff) = fun p => kdr h (nI d) p ff := funext fun p => k1 p ff (Nat.le_refl _)
  have e2 : (fun p => khl h (nI (d + 1)) p ff) = fun p => khl h (nI d) p ff := funext fun p => k2 p ff (Nat.le_refl _)
  rw [e1, e2]
theorem kn_zero (h : H2) (cc pp ff c : Nat) (hcc : c < 12) (o : KsOk h cc pp ff) (hn : anF h ff 0 = false) : knB h cc pp ff c 0 = false := by
  obtain ⟨h1, h2, h3, a1, a2, b1, b2, d1, d2, t, ks, fs⟩ := o
  have le : ∀ f, f < ff → ¬ hg h 68 f ≤ nI 0 := by
    intro f hf
    obtain ⟨p, dd, hp, hdd, p1, p2, e1, e2, -⟩ := fs f hf
    have ne := of_decide_eq_false (anyB_false.mp hn f hf)
    rw [e2, nI_eq (by omega) (by omega)] at ne
    rw [e1, nI_leI (by omega) (by omega)]
    omega
  have k2 : ∀ p n, n ≤ ff → khl h (nI 0) p n = 0 := by
    intro p n
    induction n with
    | zero => intro _; rfl
    | succ n ih =>
      intro hnf
      unfold khl
      rw [if_neg (fun z => le n (by omega) z.1)]
      exact ih (by omega)
  have e0 : ctF h (nI 0) pp ff 0 = true := by
    refine cutB_iff.mpr (fun p hp => ?_)
    refine ⟨fun z => ?_, fun z => ?_⟩
    · rw [k2 p ff (Nat.le_refl _)] at z
      exact absurd z (by decide)
    · rw [k2 p ff (Nat.le_refl _)] at z
      exact absurd z (by decide)
  unfold knB
  rw [fal_bt]
  have : anyB (fun s => ctF h (nI 0) pp ff s && !bt (nI s) c) (2 ^ cc) = true := by
    refine anyB_iff.mpr ⟨0, Nat.two_pow_pos cc, ?_⟩
    show (ctF h (nI 0) pp ff 0 && !bt (nI 0) c) = true
    rw [e0, nI_0, b_0]
    rfl
  rw [this, Bool.not_true, Bool.and_false]
theorem kn_first (h : H2) (cc pp ff c : Nat) (hcc : c < 12) (o : KsOk h cc pp ff) {d : Nat} (hd : d < 100) (hk : knB h cc pp ff c d = true) (hf : ∀ j, j < d → knB h cc pp ff c j = false) : anF h ff d = true := by
  cases hh : anF h ff d with
  | true => rfl
  | false =>
    exfalso
    cases d with
    | zero => rw [kn_zero h cc pp ff c hcc o hh] at hk; cases hk
    | succ d =>
      rw [kn_same h cc pp ff c d o (by omega) hh, hf d (by omega)] at hk
      cases hk
theorem knew_M (X : XS) (h : H2) (Q : Option Value → H2 → Prop) (cc pp ff : Nat) (o : KsOk h cc pp ff) (c : Nat) (hc : c < 12) (hq : ∀ g, KpK h g → Q (some (.int (oN (frs (knB h cc pp ff c) 100)))) g) : E X 228 12 [some (.ref 86), some (.int (nI c)), some (.int 0)] [] h Q := by
  have e99 : (99 : Int32) = nI 99 := by decide
  have o' := o
  obtain ⟨h1, h2, h3, a1, a2, b1, b2, d1, d2, t, ks, fs⟩ := o
  have key : ∀ i d g, d + i = 100 → KpK h g → (∀ j, j < d → knB h cc pp ff c j = false) → E X 228 12 [some (.ref 86), some (.int (nI c)), some (.int (nI d))] [] g Q := by
    intro i
    induction i with
    | zero =>
      intro d g hd kg hf
      have : d = 100 := by omega
      subst this
      rw [g228_12, if_pos (by rw [e99]; exact nI_lt (by omega) (by omega))]
      have := hq g kg
      rw [frs_none hf] at this
      exact this
    | succ i ih =>
      intro d g hd kg hf
      have og := KpK_Ks kg o'
      have ean : anF g ff d = anF h ff d := by
        unfold anF
        have : (fun f => decide (hg g 121 f = nI d)) = fun f => decide (hg h 121 f = nI d) := funext fun f => by rw [kg.1 _ _ (by decide) (by decide) (by omega) (by decide) (by omega)]
        rw [this]
      have next : ¬ knB h cc pp ff c d = true → ∀ g', KpK h g' → E X 228 12 [some (.ref 86), some (.int (nI c)), some (.int (nI (d + 1)))] [] g' Q := by
        intro q g' kg'
        refine ih (d + 1) g' (by omega) kg' (fun j hj => ?_)
        by_cases e : j = d
        · subst e
          cases hh : knB h cc pp ff c j with
          | true => exact absurd hh q
          | false => rfl
        · exact hf j (by omega)
      rw [g228_12, if_neg (by rw [e99]; exact nI_nlt (by omega) (by omega)), nI_1]
      show EC X 227 _ _ _
      rw [e227 X g _ ff h3 (by rw [kg.1 _ _ (by decide) (by decide) (by omega) (by decide) (by omega), d2]), rI_i, ean]
      dsimp only
      by_cases qa : anF h ff d = true
      · rw [if_neg (fun z => (bz_0 _).mp z qa)]
        show EC X 225 _ _ _
        rw [e225 X g _ cc pp ff og, rV_n]
        dsimp only
        rw [mC_a, mC_c, ctF_K kg]
        have k2 : ∀ r i w a b x y, KpK h (mC (mK g r i w) a b x y) := fun r i w a b x y => KpK_trans kg (mCK_K g r i w a b x y)
        have cl := cnt_le (ctF h (nI d) pp ff) (2 ^ cc)
        have pc := pw12 h1
        by_cases qk : knB h cc pp ff c d = true
        · have pos : ¬ nI (cnt (ctF h (nI d) pp ff) (2 ^ cc)) ≤ 0 := by
            have hb := qk
            unfold knB at hb
            rw [fal_bt, Bool.and_eq_true] at hb
            have : ¬ cnt (ctF h (nI d) pp ff) (2 ^ cc) = 0 := by
              rw [cnt_0, hb.1]
              decide
            exact nI_nle (by omega) (by omega)
          rw [if_neg pos, if_neg (fun z => z ((shr1 _ (by omega)).mpr qk))]
          have := hq _ (k2 (rw12 (fun p => kdr g (nI d) p ff) (hg g 122)) (kil g (nI d) ff) (kwl g (nI d) ff) (nI (cnt (ctF h (nI d) pp ff) (2 ^ cc))) (fewF (ctF h (nI d) pp ff) (2 ^ cc)) (falF (ctF h (nI d) pp ff) (2 ^ cc)) (fsoF (ctF h (nI d) pp ff) (2 ^ cc)))
          rw [frs_some qk hf (by omega)] at this
          exact this
        · by_cases z : nI (cnt (ctF h (nI d) pp ff) (2 ^ cc)) ≤ 0
          · rw [if_pos z]
            exact next qk _ (k2 _ _ _ _ _ _ _)
          · rw [if_neg z, if_pos (fun w => qk ((shr1 _ (by omega)).mp w))]
            exact next qk _ (k2 _ _ _ _ _ _ _)
      · rw [if_pos ((bz_0 _).mpr qa)]
        exact next (fun z => qa (kn_first h cc pp ff c hc o' (by omega) z hf)) g kg
  exact key 100 0 h (by omega) (KpK_refl h) (fun j hj => by omega)
theorem c_knew (X : XS) (h : H2) (iv : InvK h) (p0 : Int32) : EC X 132 [.ref 5, .int p0] h (fun v1 h1 => EC X 228 [.ref 86, .int p0] h1 (fun v2 h2 => v1 = v2 ∧ InvK h2 ∧ Wr [0, 6] h h2)) := by
  have iv' := iv
  obtain ⟨cc, pp, ff, o⟩ := iv
  have o' := o
  obtain ⟨h1, h2, h3, a1, a2, b1, b2, d1, d2, t, ks, fs⟩ := o
  rw [g132]
  show EC X 8 _ _ _
  rw [e8n X h _ cc h1 a1, rI_i]
  dsimp only
  by_cases c1 : 0 ≤ p0 ∧ p0 < nI cc
  · rw [b2i_t c1, if_neg n1_0]
    obtain ⟨c, hc, rfl⟩ := (inR_lt (show cc < 2 ^ 31 by omega)).mp c1
    show EC X 19 _ _ _
    apply knew_D X h _ cc pp ff o' c (by omega)
    intro g kg
    rw [rI_i]
    dsimp only
    have og := KpK_Ks kg o'
    rw [g228]
    show EC X 215 _ _ _
    rw [e215, rI_i, og.2.2.2.2.1, b2i_t c1]
    dsimp only
    rw [if_pos n1_0]
    apply knew_M X g _ cc pp ff og c (by omega)
    intro g2 kg2
    have k2 := KpK_trans kg kg2
    refine ⟨?_, ⟨cc, pp, ff, KpK_Ks k2 o'⟩, KpK_Wr k2⟩
    have : knB g cc pp ff c = knB h cc pp ff c := by
      funext d
      unfold knB
      rw [ctF_K kg]
    rw [this]
  · rw [b2i_f c1, if_pos rfl, g228]
    show EC X 215 _ _ _
    rw [e215, rI_i, a2, b2i_f c1]
    dsimp only
    rw [if_neg (fun z => z rfl)]
    exact ⟨rfl, iv', Wr_refl _ _⟩
