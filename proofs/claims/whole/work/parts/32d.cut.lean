/-! what the reference lays out of the facts -/
def kil (h : H2) (d : Int32) : Nat → Int32
  | 0 => 0
  | f + 1 => if hg h 68 f ≤ d ∧ hg h 66 f = -9 then (if hg h 67 f = 1 then kil h d f ||| ((1 : Int32) <<< (hg h 65 f &&& 31)) else kil h d f &&& (((1 : Int32) <<< (hg h 65 f &&& 31)) ^^^ (-1))) else kil h d f
def kwl (h : H2) (d : Int32) : Nat → Int32
  | 0 => 0
  | f + 1 => if hg h 68 f ≤ d ∧ hg h 66 f = -9 then (if hg h 67 f = 1 then kwl h d f &&& (((1 : Int32) <<< (hg h 65 f &&& 31)) ^^^ (-1)) else kwl h d f ||| ((1 : Int32) <<< (hg h 65 f &&& 31))) else kwl h d f
theorem kil_bt (h : H2) (d : Int32) (cc pp : Nat) (hcc : cc ≤ 12) (hpp : pp ≤ 12) : ∀ ff, (∀ f, f < ff → FcOk h cc pp f) → ∀ i, i < 32 → bt (kil h d ff) i = decide (khl h d i ff = 1) ∧ bt (kwl h d ff) i = decide (khl h d i ff = 2) ∧ (pp ≤ i → khl h d i ff = 0) := by
  intro ff
  induction ff with
  | zero =>
    intro _ i _
    refine ⟨?_, ?_, fun _ => rfl⟩
    · show bt 0 i = decide ((0 : Int32) = 1)
      rw [b_0]; rfl
    · show bt 0 i = decide ((0 : Int32) = 2)
      rw [b_0]; rfl
  | succ ff ih =>
    intro fs i hi
    obtain ⟨j1, j2, j3⟩ := ih (fun f hf => fs f (by omega)) i hi
    obtain ⟨p, dd, hp, hdd, p1, p2, e1, e2, o⟩ := fs ff (by omega)
    have er : khl h d i (ff + 1) = if hg h 68 ff ≤ d ∧ hg h 66 ff = -9 ∧ hg h 65 ff = nI i then hg h 67 ff else khl h d i ff := rfl
    have ei : kil h d (ff + 1) = if hg h 68 ff ≤ d ∧ hg h 66 ff = -9 then (if hg h 67 ff = 1 then kil h d ff ||| ((1 : Int32) <<< (hg h 65 ff &&& 31)) else kil h d ff &&& (((1 : Int32) <<< (hg h 65 ff &&& 31)) ^^^ (-1))) else kil h d ff := rfl
    have ew : kwl h d (ff + 1) = if hg h 68 ff ≤ d ∧ hg h 66 ff = -9 then (if hg h 67 ff = 1 then kwl h d ff &&& (((1 : Int32) <<< (hg h 65 ff &&& 31)) ^^^ (-1)) else kwl h d ff ||| ((1 : Int32) <<< (hg h 65 ff &&& 31))) else kwl h d ff := rfl
    by_cases c : hg h 68 ff ≤ d ∧ hg h 66 ff = -9
    · have hv : (hg h 67 ff = 1) ∨ (hg h 67 ff = 2) := by
        rcases o with ⟨-, -, ⟨q, -⟩ | ⟨q, -⟩⟩ | ⟨c', hc', q, -⟩
        · exact Or.inl q
        · exact Or.inr q
        · exact absurd (q.symm.trans c.2) (nI_m9 (by omega))
      have ki : kil h d (ff + 1) = if hg h 67 ff = 1 then kil h d ff ||| ((1 : Int32) <<< (nI p &&& 31)) else kil h d ff &&& (((1 : Int32) <<< (nI p &&& 31)) ^^^ (-1)) := by rw [ei, if_pos c, p1]
      have kw : kwl h d (ff + 1) = if hg h 67 ff = 1 then kwl h d ff &&& (((1 : Int32) <<< (nI p &&& 31)) ^^^ (-1)) else kwl h d ff ||| ((1 : Int32) <<< (nI p &&& 31)) := by rw [ew, if_pos c, p1]
      have bp : ∀ x, bt (x ||| ((1 : Int32) <<< (nI p &&& 31))) i = (bt x i || decide (i = p)) := fun x => by rw [b_or, bt_one (by omega)]
      have bn : ∀ x, bt (x &&& (((1 : Int32) <<< (nI p &&& 31)) ^^^ (-1))) i = (bt x i && !decide (i = p)) := fun x => by rw [b_and, bt_not hi, bt_one (by omega)]
      have n21 : ¬ (2 : Int32) = 1 := by decide
      by_cases e : i = p
      · have k1 : khl h d i (ff + 1) = hg h 67 ff := by rw [er, if_pos ⟨c.1, c.2, by rw [p1, e]⟩]
        have d1 : decide (i = p) = true := decide_eq_true e
        rw [k1, ki, kw]
        rcases hv with q | q
        · rw [q, if_pos rfl, if_pos rfl, bp, bn, d1, Bool.or_true, Bool.not_true, Bool.and_false]
          exact ⟨rfl, rfl, fun z => by omega⟩
        · rw [q, if_neg n21, if_neg n21, bp, bn, d1, Bool.or_true, Bool.not_true, Bool.and_false]
          exact ⟨rfl, rfl, fun z => by omega⟩
      · have k1 : khl h d i (ff + 1) = khl h d i ff := by
          rw [er, if_neg]
          intro z
          have z2 := z.2.2
          rw [p1, nI_eq (by omega) (by omega)] at z2
          exact e z2.symm
        have d0 : decide (i = p) = false := decide_eq_false e
        rw [k1, ki, kw]
        rcases hv with q | q
        · rw [q, if_pos rfl, if_pos rfl, bp, bn, d0, Bool.or_false, Bool.not_false, Bool.and_true]
          exact ⟨j1, j2, j3⟩
        · rw [q, if_neg n21, if_neg n21, bp, bn, d0, Bool.or_false, Bool.not_false, Bool.and_true]
          exact ⟨j1, j2, j3⟩
    · rw [er, ei, ew, if_neg c, if_neg c, if_neg (fun z => c ⟨z.1, z.2.1⟩)]
      exact ⟨j1, j2, j3⟩
/-- the reference's heap while it lays facts -/
def mK (g : H2) (r : Nat → Int32) (i w : Int32) : H2 := (g.1, fun b j => if b = 86 ∧ j = 50 then i else if b = 86 ∧ j = 51 then w else if b = 122 then r j else g.2.1 b j, g.2.2)
theorem hg_mK (g : H2) (r : Nat → Int32) (i w : Int32) (b j : Nat) : hg (mK g r i w) b j = if b = 86 ∧ j = 50 then i else if b = 86 ∧ j = 51 then w else if b = 122 then r j else hg g b j := rfl
theorem mK_o (g : H2) (r : Nat → Int32) (i w : Int32) (b j : Nat) (h1 : ¬ (b = 86 ∧ (j = 50 ∨ j = 51))) (h2 : b ≠ 122) : hg (mK g r i w) b j = hg g b j := by
  rw [hg_mK, if_neg (by omega), if_neg (by omega), if_neg h2]
theorem mK_i (g : H2) (r : Nat → Int32) (i w : Int32) : hg (mK g r i w) 86 50 = i := by rw [hg_mK, if_pos ⟨rfl, rfl⟩]
theorem mK_w (g : H2) (r : Nat → Int32) (i w : Int32) : hg (mK g r i w) 86 51 = w := by rw [hg_mK, if_neg (by omega), if_pos ⟨rfl, rfl⟩]
theorem mK_r (g : H2) (r : Nat → Int32) (i w : Int32) (j : Nat) : hg (mK g r i w) 122 j = r j := by rw [hg_mK, if_neg (by omega), if_neg (by omega), if_pos rfl]
theorem mK_sr (g : H2) (r : Nat → Int32) (i w : Int32) (k : Nat) (x : Int32) : sI (mK g r i w) 122 k x = mK g (upF r k x) i w := by
  refine H2_ext ?_ ?_ ?_ <;> try rfl
  intro b j
  rw [hg_sI, hg_mK, hg_mK]
  by_cases e : b = 122
  · subst e
    rw [if_neg (show ¬ (122 = 86 ∧ j = 50) by omega), if_neg (show ¬ (122 = 86 ∧ j = 51) by omega), if_pos rfl, if_neg (show ¬ (122 = 86 ∧ j = 50) by omega), if_neg (show ¬ (122 = 86 ∧ j = 51) by omega), if_pos rfl]
    by_cases e2 : j = k
    · subst e2; rw [if_pos ⟨rfl, rfl⟩, upF_e]
    · rw [if_neg (fun z => e2 z.2), upF_n e2]
  · rw [if_neg (fun z => e z.1), if_neg e, if_neg e]
theorem mK_s2 (g : H2) (r : Nat → Int32) (i w i' w' : Int32) : sI (sI (mK g r i w) 86 50 i') 86 51 w' = mK g r i' w' := by
  refine H2_ext ?_ ?_ ?_ <;> try rfl
  intro b j
  rw [hg_sI, hg_sI, hg_mK, hg_mK]
  by_cases e1 : b = 86 ∧ j = 51
  · rw [if_pos e1, if_neg (by omega), if_pos e1]
  · rw [if_neg e1]
    by_cases e2 : b = 86 ∧ j = 50
    · rw [if_pos e2, if_pos e2]
    · rw [if_neg e2, if_neg e2, if_neg e1, if_neg e2, if_neg e1]
theorem e222 (X : XS) (h : H2) (Q : Option Value → H2 → Prop) (cc pp ff : Nat) (ok : KsOk h cc pp ff) (d : Int32) : EC X 222 [.ref 86, .int d] h Q ↔ Q none (mK h (rw12 (fun p => kdr h d p ff) (hg h 122)) (kil h d ff) (kwl h d ff)) := by
  obtain ⟨h1, h2, h3, a1, a2, b1, b2, d1, d2, t, ks, fs⟩ := ok
  have e12 : (12 : Int32) = nI 12 := by decide
  have k2 : ∀ i f u, f + i = ff → (E X 222 33 [some (.ref 86), some (.int d), some (.int (nI f)), u] [] (mK h (rw12 (fun p => kdr h d p f) (hg h 122)) (kil h d f) (kwl h d f)) Q ↔ Q none (mK h (rw12 (fun p => kdr h d p ff) (hg h 122)) (kil h d ff) (kwl h d ff))) := by
    intro i
    induction i with
    | zero =>
      intro f u hf
      have : f = ff := by omega
      subst this
      rw [g222_33, mK_o _ _ _ _ _ _ (by omega) (by decide), d2, if_pos (nI_le (Nat.le_refl _) (by omega))]
    | succ i ih =>
      intro f u hf
      have i1 : ∀ u, E X 222 33 [some (.ref 86), some (.int d), some (.int (nI (f + 1))), u] [] (mK h (rw12 (fun p => kdr h d p (f + 1)) (hg h 122)) (kil h d (f + 1)) (kwl h d (f + 1))) Q ↔ Q none (mK h (rw12 (fun p => kdr h d p ff) (hg h 122)) (kil h d ff) (kwl h d ff)) := fun u => ih (f + 1) u (by omega)
      have kf : (nI f).toNatClampNeg = f := nI_clamp (by omega)
      have bf := bI f 60 (show f < 60 by omega) (by omega)
      obtain ⟨p, dd, hp', hdd, p1, p2, e1, e2, o⟩ := fs f (by omega)
      have hp : p < 12 := by omega
      have kp : (nI p).toNatClampNeg = p := nI_clamp (by omega)
      have bp := bI p 12 hp (by omega)
      have er : ∀ q, kdr h d q (f + 1) = if hg h 68 f ≤ d ∧ ¬ hg h 66 f = -9 ∧ hg h 65 f = nI q then kdr h d q f ||| ((1 : Int32) <<< (hg h 66 f &&& 31)) else kdr h d q f := fun q => rfl
      have ei : kil h d (f + 1) = if hg h 68 f ≤ d ∧ hg h 66 f = -9 then (if hg h 67 f = 1 then kil h d f ||| ((1 : Int32) <<< (hg h 65 f &&& 31)) else kil h d f &&& (((1 : Int32) <<< (hg h 65 f &&& 31)) ^^^ (-1))) else kil h d f := rfl
      have ew : kwl h d (f + 1) = if hg h 68 f ≤ d ∧ hg h 66 f = -9 then (if hg h 67 f = 1 then kwl h d f &&& (((1 : Int32) <<< (hg h 65 f &&& 31)) ^^^ (-1)) else kwl h d f ||| ((1 : Int32) <<< (hg h 65 f &&& 31))) else kwl h d f := rfl
      have r44 : ∀ r i w, hg (mK h r i w) 86 44 = nI ff := fun r i w => by rw [mK_o _ _ _ _ _ _ (by omega) (by decide), d2]
      have r121 : ∀ r i w, hg (mK h r i w) 121 f = hg h 68 f := fun r i w => by rw [mK_o _ _ _ _ _ _ (by omega) (by decide), e2, e1]
      have r118 : ∀ r i w, hg (mK h r i w) 118 f = nI p := fun r i w => by rw [mK_o _ _ _ _ _ _ (by omega) (by decide), p2]
      have r119 : ∀ r i w, hg (mK h r i w) 119 f = hg h 119 f := fun r i w => mK_o _ _ _ _ _ _ (by omega) (by decide)
      have r120 : ∀ r i w, hg (mK h r i w) 120 f = hg h 120 f := fun r i w => mK_o _ _ _ _ _ _ (by omega) (by decide)
      rw [g222_33, r44, if_neg (nI_ge (by omega) (by omega)), kf, if_neg bf, if_neg bf, if_neg bf, if_neg bf, if_neg bf, if_neg bf, r121, r118, r119, r120, kp, if_neg bp, if_neg bp, nI_1]
      by_cases c1 : hg h 68 f ≤ d
      · rw [if_pos c1]
        rcases o with ⟨o1, o2, o3⟩ | ⟨c, hc, o1, o2⟩
        · have s1 : (fun p => kdr h d p (f + 1)) = fun p => kdr h d p f := funext fun q => by rw [er, if_neg (fun z => z.2.1 o1)]
          have ei' : kil h d (f + 1) = if hg h 67 f = 1 then kil h d f ||| ((1 : Int32) <<< (nI p &&& 31)) else kil h d f &&& (((1 : Int32) <<< (nI p &&& 31)) ^^^ (-1)) := by rw [ei, if_pos ⟨c1, o1⟩, p1]
          have ew' : kwl h d (f + 1) = if hg h 67 f = 1 then kwl h d f &&& (((1 : Int32) <<< (nI p &&& 31)) ^^^ (-1)) else kwl h d f ||| ((1 : Int32) <<< (nI p &&& 31)) := by rw [ew, if_pos ⟨c1, o1⟩, p1]
          have n21 : ¬ (2 : Int32) = 1 := by decide
          rw [s1, ei', ew'] at i1
          rw [if_pos o2]
          rcases o3 with ⟨q1, q2⟩ | ⟨q1, q2⟩
          · rw [q1, if_pos rfl, if_pos rfl] at i1
            rw [q2, if_neg n1_0, g222_126, kf, if_neg bf, r120, q2, if_neg n1_0, mK_i, mK_w, mK_s2, nI_1]
            exact i1 _
          · rw [q1, if_neg n21, if_neg n21] at i1
            rw [q2, if_pos rfl, g222_126, kf, if_neg bf, r120, q2, if_pos rfl, mK_i, mK_w, mK_s2, nI_1]
            exact i1 _
        · have n9 : ¬ hg h 66 f = -9 := by rw [o1]; exact nI_m9 (by omega)
          have n9' : ¬ hg h 119 f = -9 := by rw [o2]; exact nI_m9 (by omega)
          rw [ei, ew, if_neg (fun z => n9 z.2), if_neg (fun z => n9 z.2)] at i1
          rw [if_neg n9', mK_r, rw12_in hp, mK_sr, o2, ← o1]
          have ne : ∀ q, q < 12 → q ≠ p → ¬ hg h 65 f = nI q := by
            intro q hq hqp z
            rw [p1, nI_eq (by omega) (by omega)] at z
            exact hqp z.symm
          rw [rw12_up (f' := fun p => kdr h d p (f + 1)) hp (by rw [er, if_pos ⟨c1, n9, p1⟩]) (fun j hj hjp => by rw [er, if_neg (fun z => ne j hj hjp z.2.2)])]
          exact i1 _
      · rw [if_neg c1]
        have s1 : (fun p => kdr h d p (f + 1)) = fun p => kdr h d p f := funext fun q => by rw [er, if_neg (fun z => c1 z.1)]
        rw [s1, ei, ew, if_neg (fun z => c1 z.1), if_neg (fun z => c1 z.1)] at i1
        exact i1 _
  have k1 : ∀ i p, p + i = 12 → (E X 222 12 [some (.ref 86), some (.int d), some (.int (nI p)), none] [] (mK h (fun j => if j < p then 0 else hg h 122 j) 0 0) Q ↔ Q none (mK h (rw12 (fun p => kdr h d p ff) (hg h 122)) (kil h d ff) (kwl h d ff))) := by
    intro i
    induction i with
    | zero =>
      intro p hp
      have : p = 12 := by omega
      subst this
      rw [g222_12, e12, if_pos (nI_le (Nat.le_refl _) (by omega))]
      exact k2 ff 0 none (by omega)
    | succ i ih =>
      intro p hp
      have kp : (nI p).toNatClampNeg = p := nI_clamp (by omega)
      rw [← ih (p + 1) (by omega), g222_12, e12, if_neg (nI_ge (by omega) (by omega)), kp, if_neg (bI p 12 (by omega) (by omega)), mK_sr, nI_1]
      have : upF (fun j => if j < p then 0 else hg h 122 j) p 0 = fun j => if j < p + 1 then 0 else hg h 122 j := by
        funext j
        by_cases e : j = p
        · subst e; rw [upF_e, if_pos (by omega)]
        · rw [upF_n e]
          by_cases l : j < p
          · rw [if_pos l, if_pos (by omega)]
          · rw [if_neg l, if_neg (by omega)]
      rw [this]
  have s0 : sI (sI h 86 50 0) 86 51 0 = mK h (fun j => if j < 0 then 0 else hg h 122 j) 0 0 := by
    refine H2_ext ?_ ?_ ?_ <;> try rfl
    intro b j
    rw [hg_sI, hg_sI, hg_mK]
    by_cases e1 : b = 86 ∧ j = 51
    · rw [if_pos e1, if_neg (by omega), if_pos e1]
    · rw [if_neg e1, if_neg e1]
      by_cases e2 : b = 86 ∧ j = 50
      · rw [if_pos e2, if_pos e2]
      · rw [if_neg e2, if_neg e2]
        by_cases e3 : b = 122
        · subst e3; rw [if_pos rfl, if_neg (by omega)]
        · rw [if_neg e3]
  rw [g222, s0]
  exact k1 12 0 (by omega)
