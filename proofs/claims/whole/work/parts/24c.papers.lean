/-! papers -/
def InvP (h : H2) : Prop := ∃ c : Nat, c ≤ 24 ∧ hg h 71 2 = nI c ∧ hg h 86 56 = nI c ∧ (∀ j, j < c → hg h 72 j = hg h 123 j ∧ hg h 73 j = hg h 124 j)
theorem b2i_t {p : Prop} [Decidable p] (h : p) : b2i p = 1 := by unfold b2i; rw [if_pos h]
theorem b2i_f {p : Prop} [Decidable p] (h : ¬ p) : b2i p = 0 := by unfold b2i; rw [if_neg h]
theorem ite_iff {c d : Prop} [Decidable c] [Decidable d] (h : c ↔ d) {P Q : Prop} : (if c then P else Q) = (if d then P else Q) := by
  by_cases e : d
  · rw [if_pos e, if_pos (h.mpr e)]
  · rw [if_neg e, if_neg (fun z => e (h.mp z))]
theorem e59 (X : XS) (h : H2) (Q : Option Value → H2 → Prop) (p0 : Int32) : EC X 59 [.ref 71, .int p0] h Q ↔ Q (some (.int (b2i (0 ≤ p0 ∧ p0 ≤ hg h 71 2 - 1)))) h := by
  rw [g59]
  simp only [cI, e161, rI_i, b01_b2i, cond_true]
theorem e231 (X : XS) (h : H2) (Q : Option Value → H2 → Prop) (p0 : Int32) : EC X 231 [.ref 86, .int p0] h Q ↔ Q (some (.int (b2i (0 ≤ p0 ∧ p0 < hg h 86 56)))) h := by
  rw [g231]
  rw [mdl_b2i (R := fun x => Q (some (.int x)) h)]
theorem e60 (X : XS) (h : H2) (Q : Option Value → H2 → Prop) (p : Nat) (hp : p < 24) : EC X 60 [.ref 71, .int (nI p)] h Q ↔ Q (some (.int (b2i (hg h 72 p = 0)))) h := by
  have hk : (nI p).toNatClampNeg = p := nI_clamp (by omega)
  rw [g60]
  simp only [hk, bI p 24 hp (by omega), if_false]
  by_cases e : hg h 72 p = 0
  · rw [if_neg (fun z => z e), b2i_t e]
  · rw [if_pos e, b2i_f e]
theorem e61 (X : XS) (h : H2) (Q : Option Value → H2 → Prop) (p : Nat) (hp : p < 24) : EC X 61 [.ref 71, .int (nI p)] h Q ↔ Q (some (.int (b2i (hg h 72 p = 0 ∧ hg h 73 p = 0)))) h := by
  have hk : (nI p).toNatClampNeg = p := nI_clamp (by omega)
  rw [g61]
  simp only [cI, e60 X _ _ p hp, rI_i, hk, bI p 24 hp (by omega), if_false, b2i_0]
  by_cases e : hg h 72 p = 0
  · rw [if_neg (fun z => z e)]
    by_cases e2 : hg h 73 p = 0
    · rw [if_neg (fun z => z e2), b2i_t ⟨e, e2⟩]
    · rw [if_pos e2, b2i_f (fun z => e2 z.2)]
  · rw [if_pos e, b2i_f (fun z => e z.1)]
theorem n24 {c : Nat} (hc : c ≤ 24) : (nI c = 24 ↔ c = 24) := by
  have e : (24 : Int32) = nI 24 := by decide
  rw [e, nI_eq (by omega) (by omega)]
theorem InvP_add (h : H2) (c : Nat) (hc : c < 24) (x y : Int32) (e1 : hg h 71 2 = nI c) (e2 : hg h 86 56 = nI c) (hr : ∀ j, j < c → hg h 72 j = hg h 123 j ∧ hg h 73 j = hg h 124 j) :
    InvP (sI (sI (sI (sI (sI (sI h 72 c x) 73 c y) 71 2 (nI (c + 1))) 123 c x) 124 c y) 86 56 (nI (c + 1))) := by
  refine ⟨c + 1, by omega, ?_, ?_, ?_⟩
  · simp [hg_sI]
  · simp [hg_sI]
  · intro j hj
    by_cases hjc : j = c
    · subst hjc
      simp [hg_sI]
    · simpa [hg_sI, hjc] using hr j (by omega)
theorem c_raid (X : XS) (h : H2) (iv : InvP h) (p0 : Int32) : EC X 133 [.ref 5, .int p0] h (fun v1 h1 => EC X 229 [.ref 86, .int p0] h1 (fun v2 h2 => v1 = v2 ∧ InvP h2 ∧ Wr [0, 7] h h2)) := by
  have iv' := iv
  obtain ⟨c, hc, e1, e2, hr⟩ := iv
  have e24 : Int32.ofNat 24 = (24 : Int32) := rfl
  have hk : (nI c).toNatClampNeg = c := nI_clamp (by omega)
  simp only [g133, g57, cI, rI_i, e1, e24, n24 hc]
  by_cases h6 : c = 24
  · simp only [h6, not_true, if_false, rI_i, g229, e2, n24 (Nat.le_refl 24)]
    exact ⟨trivial, iv', Wr_refl _ _⟩
  · have f1 : ∀ x y z, hg (sI (sI (sI h 72 c x) 73 c y) 71 2 z) 86 56 = nI c := fun x y z => by rw [hg_ne _ (by decide), hg_ne _ (by decide), hg_ne _ (by decide), e2]
    simp only [h6, not_false_iff, if_true, hk, bI c 24 (by omega) (by omega), if_false, rI_i, g229, f1, n24 hc, nI_1]
    refine ⟨trivial, InvP_add h c (by omega) _ _ e1 e2 hr, ?_⟩
    repeat' (first | exact Wr_refl _ _ | (refine Wr_sI ?_ (by exact List.mem_cons_of_mem _ (List.mem_cons_self ..))))
/-- a set of papers that are there -/
theorem are_there {c : Nat} (hc : c ≤ 24) (p0 : Int32) : (¬ p0 = 0 ∧ pu p0 (nI c) = 0) ↔ (¬ p0 < 1 ∧ p0 < (1 : Int32) <<< (nI c &&& 31)) := by
  have e1 : (1 : Int32) <<< (nI c &&& 31) = nI (2 ^ c) := by
    have := pk_shlN (n := 1) (nI c &&& 31) c (s_l c (by omega)) (by rw [Nat.one_mul]; exact Nat.pow_lt_pow_right (by omega) (by omega))
    rw [Nat.one_mul] at this
    exact this
  have hp : 2 ^ c < 2 ^ 31 := Nat.pow_lt_pow_right (by omega) (by omega)
  have e2 : pu p0 (nI c) = nI (p0.toBitVec.toNat / 2 ^ c) := by
    have := pu_nI (n := p0.toBitVec.toNat) p0.toBitVec.isLt (nI c) c (s_u c (by omega))
    rw [nI_bv] at this
    exact this
  rw [e1, e2]
  have ht : p0.toBitVec.toNat < 2 ^ 32 := p0.toBitVec.isLt
  have hz : nI (p0.toBitVec.toNat / 2 ^ c) = 0 ↔ p0.toBitVec.toNat < 2 ^ c := by
    have hd : p0.toBitVec.toNat / 2 ^ c < 2 ^ 32 := Nat.lt_of_le_of_lt (Nat.div_le_self _ _) ht
    constructor
    · intro z
      have z2 := congrArg (fun x : Int32 => x.toBitVec.toNat) z
      have z3 : p0.toBitVec.toNat / 2 ^ c = 0 := by
        have := pk_tn hd
        exact this.symm.trans z2
      rcases Nat.div_eq_zero_iff.mp z3 with q | q
      · have := Nat.two_pow_pos c
        omega
      · exact q
    · intro z
      rw [Nat.div_eq_of_lt z]
      exact nI_0
  rw [hz]
  constructor
  · rintro ⟨a, b⟩
    have e3 : p0 = nI p0.toBitVec.toNat := (nI_bv p0).symm
    generalize p0.toBitVec.toNat = n at *
    subst e3
    have e1' : (1 : Int32) = nI 1 := by decide
    rw [e1']
    refine ⟨?_, nI_lt b hp⟩
    rw [nI_ltI (by omega) (by omega)]
    intro z
    have : n = 0 := by omega
    subst this
    exact a nI_0
  · rintro ⟨a, b⟩
    have h0 : ¬ p0 < 0 := by
      intro z
      apply a
      exact Int32.lt_of_lt_of_le z (by decide)
    obtain ⟨j, hj, rfl⟩ := nI_of h0
    rw [pk_tn (by omega)]
    refine ⟨?_, (nI_ltI hj hp).mp b⟩
    intro z
    rw [z] at a
    exact a (by decide)
theorem e58 (X : XS) (h : H2) (Q : Option Value → H2 → Prop) (c : Nat) (hc : c ≤ 24) (e1 : hg h 71 2 = nI c) (p0 : Int32) : EC X 58 [.ref 71, .int p0] h Q ↔ Q (some (.int (b2i (¬ p0 < 1 ∧ p0 < (1 : Int32) <<< (nI c &&& 31))))) h := by
  have e : EC X 58 [.ref 71, .int p0] h Q ↔ if p0 = 0 then Q (some (.int (0 : Int32))) h else if ¬ pu p0 (hg h 71 2) = 0 then Q (some (.int (0 : Int32))) h else Q (some (.int (1 : Int32))) h := g58 X h Q p0
  rw [e, e1]
  have k := are_there hc p0
  by_cases h1 : p0 = 0
  · rw [if_pos h1, b2i_f (fun z => (k.mpr z).1 h1)]
  · rw [if_neg h1]
    by_cases h2 : pu p0 (nI c) = 0
    · rw [if_neg (fun z => z h2), b2i_t (k.mp ⟨h1, h2⟩)]
    · rw [if_pos h2, b2i_f (fun z => h2 (k.mpr z).2)]
theorem c_paper (X : XS) (h : H2) (iv : InvP h) (p0 : Int32) : EC X 134 [.ref 5, .int p0] h (fun v1 h1 => EC X 230 [.ref 86, .int p0] h1 (fun v2 h2 => v1 = v2 ∧ InvP h2 ∧ Wr [0, 7] h h2)) := by
  have iv' := iv
  obtain ⟨c, hc, e1, e2, hr⟩ := iv
  have e24 : Int32.ofNat 24 = (24 : Int32) := rfl
  have hk : (nI c).toNatClampNeg = c := nI_clamp (by omega)
  simp only [g134, cI, rI_i, e58 X _ _ c hc e1, b2i_0]
  by_cases hp : ¬ p0 < 1 ∧ p0 < (1 : Int32) <<< (nI c &&& 31)
  · rw [if_neg (fun z => z hp)]
    have a1 := hp.1
    have a2 := hp.2
    simp only [g57, e1, e24, n24 hc]
    by_cases h6 : c = 24
    · subst h6
      simp only [not_true, if_false, rI_i, g230, e2, n24 (Nat.le_refl 24), a1, a2, if_true]
      exact ⟨trivial, iv', Wr_refl _ _⟩
    · have f1 : ∀ x y z, hg (sI (sI (sI h 72 c x) 73 c y) 71 2 z) 86 56 = nI c := fun x y z => by rw [hg_ne _ (by decide), hg_ne _ (by decide), hg_ne _ (by decide), e2]
      simp only [h6, not_false_iff, if_true, hk, bI c 24 (by omega) (by omega), if_false, rI_i, g230, f1, n24 hc, nI_1, a1, a2]
      refine ⟨trivial, InvP_add h c (by omega) _ _ e1 e2 hr, ?_⟩
      repeat' (first | exact Wr_refl _ _ | (refine Wr_sI ?_ (by exact List.mem_cons_of_mem _ (List.mem_cons_self ..))))
  · rw [if_pos hp]
    simp only [g230, e2]
    by_cases a1 : p0 < 1
    · rw [if_pos a1]
      exact ⟨trivial, iv', Wr_refl _ _⟩
    · rw [if_neg a1, if_neg (fun z => hp ⟨a1, z⟩)]
      exact ⟨trivial, iv', Wr_refl _ _⟩
theorem c_met (X : XS) (h : H2) (iv : InvP h) (p0 p1 : Int32) : EC X 135 [.ref 5, .int p0, .int p1] h (fun v1 h1 => EC X 232 [.ref 86, .int p0, .int p1] h1 (fun v2 h2 => v1 = v2 ∧ InvP h2 ∧ Wr [0, 7] h h2)) := by
  have iv' := iv
  obtain ⟨c, hc, e1, e2, hr⟩ := iv
  simp only [g135, g232, cI, rI_i, e59, e231, e1, b2i_0, inR_c (show c < 2 ^ 31 by omega)]
  by_cases hp : 0 ≤ p0 ∧ p0 < nI c
  · obtain ⟨j, hj, rfl⟩ := (inR_lt (show c < 2 ^ 31 by omega)).mp hp
    have hk : (nI j).toNatClampNeg = j := nI_clamp (by omega)
    have hq := hr j hj
    simp only [hp, and_self, not_true, not_false_iff, if_true, e60 X _ _ j (by omega), rI_i, b2i_0]
    by_cases h1 : hg h 72 j = 0
    · simp only [h1, not_true, if_false, g62, hk, bI j 24 (by omega) (by omega)]
      have fin : ∀ x, InvP (sI (sI h 73 j x) 124 j x) ∧ Wr [0, 7] h (sI (sI h 73 j x) 124 j x) := by
        intro x
        refine ⟨⟨c, hc, ?_, ?_, ?_⟩, ?_⟩
        · simp [hg_sI, e1]
        · simp [hg_sI, e2]
        · intro i hi
          by_cases hij : i = j
          · subst hij
            simp [hg_sI, hq.1]
          · simpa [hg_sI, hij] using hr i hi
        · repeat' (first | exact Wr_refl _ _ | (refine Wr_sI ?_ (by exact List.mem_cons_of_mem _ (List.mem_cons_self ..))))
      have h3 : hg h 123 j = 0 := by rw [← hq.1, h1]
      have f1 : ∀ x, hg (sI h 73 j x) 86 56 = nI c := fun x => by rw [hg_ne _ (by decide), e2]
      have f2 : ∀ x, hg (sI h 73 j x) 123 j = 0 := fun x => by rw [hg_ne _ (by decide), h3]
      have f3 : ∀ x, hg (sI h 73 j x) 124 j = hg h 73 j := fun x => by rw [hg_ne _ (by decide), hq.2]
      by_cases h2 : hg h 73 j = p1
      · simp only [h2, not_true, if_false, rI_i, f1, f2, f3, hp, and_self, not_true, not_false_iff, if_true, hk, bI j 24 (show j < 24 by omega) (by omega), show ¬ (1 : Int32) = 0 by decide]
        exact ⟨trivial, fin _⟩
      · simp only [h2, not_true, if_false, rI_i, f1, f2, f3, hp, and_self, not_true, not_false_iff, if_true, hk, bI j 24 (show j < 24 by omega) (by omega)]
        exact ⟨trivial, fin _⟩
    · have h3 : ¬ hg h 123 j = 0 := by rw [← hq.1]; exact h1
      simp only [h1, not_false_iff, if_true, e2, hp, and_self, not_true, hk, bI j 24 (show j < 24 by omega) (by omega), if_false, h3]
      exact ⟨trivial, iv', Wr_refl _ _⟩
  · simp only [hp, not_true, not_false_iff, if_true, if_false, e2]
    exact ⟨trivial, iv', Wr_refl _ _⟩
/-- is the p-th void, s being those ahead of it -/
def vdB (h : H2) (r s : Int32) (p : Nat) : Bool := if hg h 72 p = 0 then decide (hg h 73 p = 0 ∧ ¬ nI p = r) else decide (hg h 72 p &&& (s ^^^ (-1)) = 0)
def bit (p : Nat) : Int32 := (1 : Int32) <<< (nI p &&& 31)
def vdS (h : H2) (r : Int32) : Nat → Int32
  | 0 => 0
  | p + 1 => if vdB h r (vdS h r p) p = true then vdS h r p ||| bit p else vdS h r p
theorem e63 (X : XS) (h : H2) (Q : Option Value → H2 → Prop) (c : Nat) (hc : c ≤ 24) (ec : hg h 71 2 = nI c) (r : Int32) :
    EC X 63 [.ref 71, .int r] h Q ↔ Q (some (.int (vdS h r c))) h := by
  have key : ∀ m k u, k + m = c → (E X 63 4 [some (.ref 71), some (.int r), some (.int (vdS h r k)), some (.int (nI k)), u] [] h Q ↔ Q (some (.int (vdS h r c))) h) := by
    intro m
    induction m with
    | zero =>
      intro k u hk
      have : k = c := by omega
      subst this
      rw [g63_4, ec, if_pos (nI_le (Nat.le_refl _) (by omega))]
    | succ m ih =>
      intro k u hk
      have hkk : (nI k).toNatClampNeg = k := nI_clamp (by omega)
      have n1 : ¬ (1 : Int32) = 0 := by decide
      rw [g63_4, ec, if_neg (nI_ge (by omega) (by omega))]
      simp only [cI, e60 X _ _ k (by omega), rI_i, hkk, bI k 24 (by omega) (by omega), if_false, nI_1, b2i_0, n1, if_true]
      have i1 : ∀ u, E X 63 4 [some (.ref 71), some (.int r), some (.int (vdS h r (k + 1))), some (.int (nI (k + 1))), u] [] h Q ↔ Q (some (.int (vdS h r c))) h := fun u => ih (k + 1) u (by omega)
      have e : vdS h r (k + 1) = if vdB h r (vdS h r k) k = true then vdS h r k ||| bit k else vdS h r k := rfl
      by_cases h1 : hg h 72 k = 0
      · simp only [h1, not_true, if_false]
        have e2 : vdB h r (vdS h r k) k = decide (hg h 73 k = 0 ∧ ¬ nI k = r) := by unfold vdB; rw [if_pos h1]
        by_cases h2 : hg h 73 k = 0
        · by_cases h3 : nI k = r
          · rw [e, e2, decide_eq_false (fun z => z.2 h3), if_neg (by decide)] at i1
            rw [if_neg (fun z => z h2), if_pos h3]
            exact i1 _
          · rw [e, e2, decide_eq_true ⟨h2, h3⟩, if_pos rfl] at i1
            rw [if_neg (fun z => z h2), if_neg h3]
            exact i1 _
        · rw [e, e2, decide_eq_false (fun z => h2 z.1), if_neg (by decide)] at i1
          rw [if_pos h2]
          exact i1 _
      · simp only [h1, not_false_iff, if_true]
        have e2 : vdB h r (vdS h r k) k = decide (hg h 72 k &&& (vdS h r k ^^^ (-1)) = 0) := by unfold vdB; rw [if_neg h1]
        by_cases h2 : hg h 72 k &&& (vdS h r k ^^^ (-1)) = 0
        · rw [e, e2, decide_eq_true h2, if_pos rfl] at i1
          rw [if_neg (fun z => z h2)]
          exact i1 _
        · rw [e, e2, decide_eq_false h2, if_neg (by decide)] at i1
          rw [if_pos h2]
          exact i1 _
  rw [g63]
  exact key c 0 _ (by omega)
theorem e233 (X : XS) (h : H2) (Q : Option Value → H2 → Prop) (c : Nat) (hc : c ≤ 24) (ec : hg h 86 56 = nI c) (ag : ∀ j, j < c → hg h 72 j = hg h 123 j ∧ hg h 73 j = hg h 124 j) (r : Int32) :
    EC X 233 [.ref 86, .int r] h Q ↔ Q (some (.int (vdS h r c))) h := by
  have key : ∀ m k u, k + m = c → (E X 233 4 [some (.ref 86), some (.int r), some (.int (vdS h r k)), some (.int (nI k)), u] [] h Q ↔ Q (some (.int (vdS h r c))) h) := by
    intro m
    induction m with
    | zero =>
      intro k u hk
      have : k = c := by omega
      subst this
      rw [g233_4, ec, if_pos (nI_le (Nat.le_refl _) (by omega))]
    | succ m ih =>
      intro k u hk
      have hkk : (nI k).toNatClampNeg = k := nI_clamp (by omega)
      have n1 : ¬ (1 : Int32) = 0 := by decide
      have ak := ag k (by omega)
      rw [g233_4, ec, if_neg (nI_ge (by omega) (by omega))]
      simp only [g233_39, hkk, bI k 24 (by omega) (by omega), if_false, nI_1, n1, if_true, or_0, ← ak.1, ← ak.2]
      have i1 : ∀ u, E X 233 4 [some (.ref 86), some (.int r), some (.int (vdS h r (k + 1))), some (.int (nI (k + 1))), u] [] h Q ↔ Q (some (.int (vdS h r c))) h := fun u => ih (k + 1) u (by omega)
      have e : vdS h r (k + 1) = if vdB h r (vdS h r k) k = true then vdS h r k ||| bit k else vdS h r k := rfl
      by_cases h1 : hg h 72 k = 0
      · simp only [h1, not_true, if_false]
        have e2 : vdB h r (vdS h r k) k = decide (hg h 73 k = 0 ∧ ¬ nI k = r) := by unfold vdB; rw [if_pos h1]
        by_cases h2 : hg h 73 k = 0
        · by_cases h3 : nI k = r
          · rw [e, e2, decide_eq_false (fun z => z.2 h3), if_neg (by decide)] at i1
            rw [if_neg (fun z => z h2), if_pos h3]
            exact i1 _
          · rw [e, e2, decide_eq_true ⟨h2, h3⟩, if_pos rfl] at i1
            rw [if_neg (fun z => z h2), if_neg h3]
            exact i1 _
        · rw [e, e2, decide_eq_false (fun z => h2 z.1), if_neg (by decide)] at i1
          rw [if_pos h2]
          exact i1 _
      · simp only [h1, not_false_iff, if_true]
        have e2 : vdB h r (vdS h r k) k = decide (hg h 72 k &&& (vdS h r k ^^^ (-1)) = 0) := by unfold vdB; rw [if_neg h1]
        by_cases h2 : hg h 72 k &&& (vdS h r k ^^^ (-1)) = 0
        · rw [e, e2, decide_eq_true h2, if_pos rfl] at i1
          rw [if_neg (fun z => z h2)]
          exact i1 _
        · rw [e, e2, decide_eq_false h2, if_neg (by decide)] at i1
          rw [if_pos h2]
          exact i1 _
  rw [g233]
  exact key c 0 _ (by omega)
theorem c_voids (X : XS) (h : H2) (iv : InvP h) : EC X 136 [.ref 5] h (fun v1 h1 => EC X 234 [.ref 86] h1 (fun v2 h2 => v1 = v2 ∧ InvP h2 ∧ Wr [0, 7] h h2)) := by
  have iv' := iv
  obtain ⟨c, hc, e1, e2, hr⟩ := iv
  simp only [g136, g234, cI, e63 X _ _ c hc e1, e233 X _ _ c hc e2 hr, rI_i]
  exact ⟨trivial, iv', Wr_refl _ _⟩
/-- bits of the voids -/
theorem bt_bit {p : Nat} (hp : p < 32) (i : Nat) : bt (bit p) i = decide (i = p) := bt_one hp i
theorem vdS_hi (h : H2) (r : Int32) : ∀ n, n ≤ 24 → ∀ i, n ≤ i → bt (vdS h r n) i = false := by
  intro n
  induction n with
  | zero => intro _ i _; exact b_0 i
  | succ n ih =>
    intro hn i hi
    show bt (if vdB h r (vdS h r n) n = true then vdS h r n ||| bit n else vdS h r n) i = false
    by_cases e : vdB h r (vdS h r n) n = true
    · rw [if_pos e, b_or, ih (by omega) i (by omega), bt_bit (by omega), decide_eq_false (by omega)]; rfl
    · rw [if_neg e]; exact ih (by omega) i (by omega)
theorem vdS_lo (h : H2) (r : Int32) (i : Nat) : ∀ n, n ≤ 24 → i < n → bt (vdS h r n) i = vdB h r (vdS h r i) i := by
  intro n
  induction n with
  | zero => intro _ hi; omega
  | succ n ih =>
    intro hn hi
    show bt (if vdB h r (vdS h r n) n = true then vdS h r n ||| bit n else vdS h r n) i = _
    by_cases hin : i = n
    · subst hin
      by_cases e : vdB h r (vdS h r i) i = true
      · rw [if_pos e, b_or, bt_bit (by omega), decide_eq_true rfl, Bool.or_true, e]
      · rw [if_neg e, vdS_hi h r i (by omega) i (Nat.le_refl _)]
        cases hh : vdB h r (vdS h r i) i with
        | true => exact absurd hh e
        | false => rfl
    · have := ih (by omega) (by omega)
      by_cases e : vdB h r (vdS h r n) n = true
      · rw [if_pos e, b_or, bt_bit (by omega), decide_eq_false hin, Bool.or_false, this]
      · rw [if_neg e, this]
theorem vdS_mono (h : H2) (r : Int32) (hr : ∀ j : Nat, j < 24 → ¬ nI j = -9) : ∀ n, n ≤ 24 → ∀ i, bt (vdS h r n) i = true → bt (vdS h (-9) n) i = true := by
  intro n
  induction n with
  | zero => intro _ i hi; rw [show vdS h r 0 = 0 from rfl, b_0] at hi; cases hi
  | succ n ih =>
    intro hn i hi
    have ih' := ih (by omega)
    have mb : vdB h r (vdS h r n) n = true → vdB h (-9) (vdS h (-9) n) n = true := by
      intro z
      unfold vdB at z ⊢
      by_cases h1 : hg h 72 n = 0
      · rw [if_pos h1] at z ⊢
        exact decide_eq_true ⟨(of_decide_eq_true z).1, hr n (by omega)⟩
      · rw [if_neg h1] at z ⊢
        have z1 := bt_sub.mp (of_decide_eq_true z)
        exact decide_eq_true (bt_sub.mpr (fun j hj q => ih' j (z1 j hj q)))
    by_cases hin : i = n
    · subst hin
      rw [vdS_lo h _ i (i + 1) hn (by omega)] at hi ⊢
      exact mb hi
    · by_cases hl : i < n
      · have a1 := vdS_lo h r i (n + 1) hn (by omega)
        have a2 := vdS_lo h r i n (by omega) hl
        have b1 := vdS_lo h (-9) i (n + 1) hn (by omega)
        have b2 := vdS_lo h (-9) i n (by omega) hl
        rw [b1, ← b2]
        rw [a1, ← a2] at hi
        exact ih' i hi
      · rw [vdS_hi h r (n + 1) hn i (by omega)] at hi
        cases hi
theorem cnt_mono {f g : Nat → Bool} {n : Nat} (hs : ∀ j, j < n → f j = true → g j = true) : cnt f n ≤ cnt g n := by
  induction n with
  | zero => exact Nat.le_refl _
  | succ n ih =>
    have := ih (fun j hj => hs j (by omega))
    unfold cnt
    by_cases e : f n = true
    · rw [if_pos e, if_pos (hs n (by omega) e)]; omega
    · rw [if_neg e]; omega
theorem cnt_lt {f g : Nat → Bool} {p : Nat} : ∀ {n : Nat}, (∀ j, j < n → f j = true → g j = true) → p < n → f p = false → g p = true → cnt f n < cnt g n := by
  intro n
  induction n with
  | zero => intro _ h _ _; omega
  | succ n ih =>
    intro hs hp hf hgp
    unfold cnt
    by_cases e : p = n
    · subst e
      have := cnt_mono (f := f) (g := g) (n := p) (fun j hj => hs j (by omega))
      rw [hf, hgp, if_neg (by decide), if_pos rfl]
      omega
    · have := ih (fun j hj => hs j (by omega)) (by omega) hf hgp
      by_cases e : f n = true
      · rw [if_pos e, if_pos (hs n (by omega) e)]; omega
      · rw [if_neg e]; omega
/-- how many a raid saves -/
def pv (h : H2) (c : Nat) (r : Int32) : Nat := cnt (bt (vdS h r c)) 24
theorem pv_le (h : H2) (c : Nat) (r : Int32) : pv h c r ≤ 24 := cnt_le _ _
theorem nI_m9 {j : Nat} (hj : j < 2 ^ 31) : ¬ nI j = -9 := fun z => by
  have := nI_pos' hj
  rw [z] at this
  exact absurd this (by decide)
theorem pv_lt (h : H2) (c p : Nat) (hc : c ≤ 24) (hp : p < c) (h1 : hg h 72 p = 0) (h2 : hg h 73 p = 0) : pv h c (nI p) < pv h c (-9) := by
  apply cnt_lt (p := p)
  · intro j _ hj
    exact vdS_mono h _ (fun j hj => nI_m9 (by omega)) c hc j hj
  · omega
  · rw [vdS_lo h _ p c hc hp]
    unfold vdB
    rw [if_pos h1]
    exact decide_eq_false (fun z => z.2 rfl)
  · rw [vdS_lo h _ p c hc hp]
    unfold vdB
    rw [if_pos h1]
    exact decide_eq_true ⟨h2, nI_m9 (by omega)⟩
theorem e235 (X : XS) (h : H2) (Q : Option Value → H2 → Prop) (x : Int32) : EC X 235 [.int x] h Q ↔ Q (some (.int (nI (cnt (bt x) 24)))) h := by
  have e24 : (24 : Int32) = nI 24 := by decide
  have key : ∀ m k, k + m = 24 → (E X 235 4 [some (.int x), some (.int (nI (cnt (bt x) k))), some (.int (nI k))] [] h Q ↔ Q (some (.int (nI (cnt (bt x) 24)))) h) := by
    intro m
    induction m with
    | zero =>
      intro k hk
      have : k = 24 := by omega
      subst this
      rw [g235_4, e24, if_pos (nI_le (Nat.le_refl _) (by omega))]
    | succ m ih =>
      intro k hk
      rw [← ih (k + 1) (by omega), g235_4, e24, if_neg (nI_ge (by omega) (by omega)), bt_shr x (show k < 32 by omega), nI_1]
      have ee : cnt (bt x) (k + 1) = cnt (bt x) k + (if bt x k = true then 1 else 0) := rfl
      rw [ee]
      by_cases hb : bt x k = true
      · rw [if_pos hb, if_pos hb, nI_1]
      · rw [if_neg hb, if_neg hb, Int32.add_zero]
        rfl
  rw [g235]
  exact key 24 0 (by omega)
theorem e64 (X : XS) (h : H2) (Q : Option Value → H2 → Prop) (c : Nat) (hc : c ≤ 24) (ec : hg h 71 2 = nI c) (r : Int32) : EC X 64 [.ref 71, .int r] h Q ↔ Q (some (.int (nI (pv h c (-9)) - nI (pv h c r)))) h := by
  rw [g64]
  simp only [cI, e63 X _ _ c hc ec, rI_i, e266 X _ _ _ (fun i hi _ => vdS_hi h _ c hc i (by omega))]
  rfl
theorem e236 (X : XS) (h : H2) (Q : Option Value → H2 → Prop) (c : Nat) (hc : c ≤ 24) (ec : hg h 86 56 = nI c) (ag : ∀ j, j < c → hg h 72 j = hg h 123 j ∧ hg h 73 j = hg h 124 j) (r : Int32) : EC X 236 [.ref 86, .int r] h Q ↔ Q (some (.int (nI (pv h c (-9)) - nI (pv h c r)))) h := by
  rw [g236]
  simp only [cI, e233 X _ _ c hc ec ag, rI_i, e235]
  rfl
theorem c_saved (X : XS) (h : H2) (iv : InvP h) (p0 : Int32) : EC X 137 [.ref 5, .int p0] h (fun v1 h1 => EC X 237 [.ref 86, .int p0] h1 (fun v2 h2 => v1 = v2 ∧ InvP h2 ∧ Wr [0, 7] h h2)) := by
  have iv' := iv
  obtain ⟨c, hc, e1, e2, hr⟩ := iv
  simp only [g137, g237, cI, rI_i, e59, e231, e1, b2i_0, inR_c (show c < 2 ^ 31 by omega)]
  by_cases hp : 0 ≤ p0 ∧ p0 < nI c
  · obtain ⟨j, hj, rfl⟩ := (inR_lt (show c < 2 ^ 31 by omega)).mp hp
    have hk : (nI j).toNatClampNeg = j := nI_clamp (by omega)
    have hq := hr j hj
    simp only [hp, and_self, not_true, not_false_iff, if_true, e61 X _ _ j (by omega), rI_i, b2i_0, e64 X _ _ c hc e1, e2, hk, bI j 24 (show j < 24 by omega) (by omega), if_false, ← hq.1, ← hq.2, e236 X _ _ c hc e2 hr]
    by_cases h1 : hg h 72 j = 0
    · by_cases h2 : hg h 73 j = 0
      · simp only [h1, h2, and_self, not_true, if_false, if_true]
        exact ⟨trivial, iv', Wr_refl _ _⟩
      · simp only [h1, h2, and_false, not_true, not_false_iff, if_false, if_true]
        exact ⟨trivial, iv', Wr_refl _ _⟩
    · simp only [h1, false_and, not_false_iff, if_true]
      exact ⟨trivial, iv', Wr_refl _ _⟩
  · simp only [hp, not_true, not_false_iff, if_true, if_false, e2]
    exact ⟨trivial, iv', Wr_refl _ _⟩
/-- the worst raid of the first k, and what it saves -/
def un (h : H2) (p : Nat) : Bool := decide (hg h 72 p = 0 ∧ hg h 73 p = 0)
def wst (h : H2) (c : Nat) : Nat → Option Nat
  | 0 => none
  | k + 1 => if un h k = true then (match wst h c k with
      | none => some k
      | some b => if pv h c (nI k) < pv h c (nI b) then some k else some b) else wst h c k
theorem wst_un (h : H2) (c : Nat) : ∀ k b, wst h c k = some b → b < k ∧ un h b = true := by
  intro k
  induction k with
  | zero => intro b hb; cases hb
  | succ k ih =>
    intro b hb
    unfold wst at hb
    by_cases e : un h k = true
    · rw [if_pos e] at hb
      cases hw : wst h c k with
      | none => rw [hw] at hb; cases hb; exact ⟨by omega, e⟩
      | some b' =>
        rw [hw] at hb
        dsimp only at hb
        by_cases l : pv h c (nI k) < pv h c (nI b')
        · rw [if_pos l] at hb; cases hb; exact ⟨by omega, e⟩
        · rw [if_neg l] at hb
          cases hb
          have := ih _ hw
          exact ⟨by omega, this.2⟩
    · rw [if_neg e] at hb
      have := ih b hb
      exact ⟨by omega, this.2⟩
def oN (o : Option Nat) : Int32 := match o with
  | none => -9
  | some b => nI b
def svO (h : H2) (c : Nat) (o : Option Nat) : Nat := match o with
  | none => 0
  | some b => pv h c (-9) - pv h c (nI b)
theorem e65 (X : XS) (h : H2) (Q : Option Value → H2 → Prop) (c : Nat) (hc : c ≤ 24) (ec : hg h 71 2 = nI c) : EC X 65 [.ref 71] h Q ↔ Q (some (.int (oN (wst h c c)))) h := by
  have p24 := pv_le h c (-9)
  have key : ∀ m k u, k + m = c → (E X 65 7 [some (.ref 71), some (.int (oN (wst h c k))), some (.int (nI (svO h c (wst h c k)))), some (.int (nI k)), u] [] h Q ↔ Q (some (.int (oN (wst h c c)))) h) := by
    intro m
    induction m with
    | zero =>
      intro k u hk
      have : k = c := by omega
      subst this
      rw [g65_7, ec, if_pos (nI_le (Nat.le_refl _) (by omega))]
    | succ m ih =>
      intro k u hk
      have i1 : ∀ u, E X 65 7 [some (.ref 71), some (.int (oN (wst h c (k + 1)))), some (.int (nI (svO h c (wst h c (k + 1))))), some (.int (nI (k + 1))), u] [] h Q ↔ Q (some (.int (oN (wst h c c)))) h := fun u => ih (k + 1) u (by omega)
      have sb : svO h c (wst h c k) ≤ 24 := by
        unfold svO
        cases wst h c k with
        | none => exact Nat.zero_le _
        | some b => show pv h c (-9) - _ ≤ 24; omega
      rw [g65_7, ec, if_neg (nI_ge (by omega) (by omega))]
      simp only [cI, e61 X _ _ k (by omega), rI_i, b2i_0, e64 X _ _ c hc ec, nI_1]
      by_cases e : hg h 72 k = 0 ∧ hg h 73 k = 0
      · rw [if_neg (fun z => z e)]
        have lt := pv_lt h c k hc (by omega) e.1 e.2
        have e' : un h k = true := decide_eq_true e
        rw [pk_sub (by omega), ite_iff (nI_leI (by omega) (by omega))]
        have e3 : wst h c (k + 1) = (match wst h c k with
          | none => some k
          | some b => if pv h c (nI k) < pv h c (nI b) then some k else some b) := by
          show (if un h k = true then _ else _) = _
          rw [if_pos e']
        cases hw : wst h c k with
        | none =>
          rw [hw] at e3
          dsimp only at e3
          rw [e3] at i1
          rw [if_neg (by show ¬ _ ≤ 0; omega)]
          exact i1 _
        | some b =>
          rw [hw] at e3
          dsimp only at e3
          have wb := wst_un h c k b hw
          have wu := of_decide_eq_true wb.2
          have lt2 := pv_lt h c b hc (by omega) wu.1 wu.2
          show (if pv h c (-9) - pv h c (nI k) ≤ pv h c (-9) - pv h c (nI b) then _ else _) ↔ _
          by_cases l : pv h c (nI k) < pv h c (nI b)
          · rw [if_pos l] at e3
            rw [e3] at i1
            rw [if_neg (by omega)]
            exact i1 _
          · rw [if_neg l] at e3
            rw [e3] at i1
            rw [if_pos (by omega)]
            exact i1 _
      · rw [if_pos e, if_pos (nI_pos' (by omega))]
        have e' : ¬ un h k = true := fun z => e (of_decide_eq_true z)
        have e3 : wst h c (k + 1) = wst h c k := by
          show (if un h k = true then _ else _) = _
          rw [if_neg e']
        rw [e3] at i1
        exact i1 _
  rw [g65]
  exact key c 0 _ (by omega)
theorem e238 (X : XS) (h : H2) (Q : Option Value → H2 → Prop) (c : Nat) (hc : c ≤ 24) (ec : hg h 86 56 = nI c) (ag : ∀ j, j < c → hg h 72 j = hg h 123 j ∧ hg h 73 j = hg h 124 j) : EC X 238 [.ref 86] h Q ↔ Q (some (.int (oN (wst h c c)))) h := by
  have p24 := pv_le h c (-9)
  have key : ∀ m k, k + m = c → (E X 238 5 [some (.ref 86), some (.int (oN (wst h c k))), some (.int (nI k))] [] h Q ↔ Q (some (.int (oN (wst h c c)))) h) := by
    intro m
    induction m with
    | zero =>
      intro k hk
      have : k = c := by omega
      subst this
      rw [g238_5, ec, if_pos (nI_le (Nat.le_refl _) (by omega))]
    | succ m ih =>
      intro k hk
      have i1 := ih (k + 1) (by omega)
      have hkk : (nI k).toNatClampNeg = k := nI_clamp (by omega)
      have ak := ag k (by omega)
      rw [g238_5, ec, if_neg (nI_ge (by omega) (by omega))]
      simp only [hkk, bI k 24 (show k < 24 by omega) (by omega), if_false, ← ak.1, ← ak.2, cI, e236 X _ _ c hc ec ag, rI_i, nI_1]
      by_cases e : hg h 72 k = 0 ∧ hg h 73 k = 0
      · rw [if_neg (fun z => z e.1), if_neg (fun z => z e.2)]
        have lt := pv_lt h c k hc (by omega) e.1 e.2
        have e' : un h k = true := decide_eq_true e
        have e3 : wst h c (k + 1) = (match wst h c k with
          | none => some k
          | some b => if pv h c (nI k) < pv h c (nI b) then some k else some b) := by
          show (if un h k = true then _ else _) = _
          rw [if_pos e']
        cases hw : wst h c k with
        | none =>
          rw [hw] at e3
          dsimp only at e3
          rw [e3] at i1
          rw [if_pos (show oN none = -9 from rfl)]
          exact i1
        | some b =>
          rw [hw] at e3
          dsimp only at e3
          have wb := wst_un h c k b hw
          have wu := of_decide_eq_true wb.2
          have lt2 := pv_lt h c b hc (by omega) wu.1 wu.2
          show (if nI b = -9 then _ else if nI (pv h c (-9)) - nI (pv h c (nI k)) ≤ nI (pv h c (-9)) - nI (pv h c (nI b)) then _ else _) ↔ _
          rw [if_neg (nI_m9 (by omega)), pk_sub (by omega), pk_sub (by omega), ite_iff (nI_leI (by omega) (by omega))]
          by_cases l : pv h c (nI k) < pv h c (nI b)
          · rw [if_pos l] at e3
            rw [e3] at i1
            rw [if_neg (by omega)]
            exact i1
          · rw [if_neg l] at e3
            rw [e3] at i1
            rw [if_pos (by omega)]
            exact i1
      · have e' : ¬ un h k = true := fun z => e (of_decide_eq_true z)
        have e3 : wst h c (k + 1) = wst h c k := by
          show (if un h k = true then _ else _) = _
          rw [if_neg e']
        rw [e3] at i1
        by_cases h1 : hg h 72 k = 0
        · rw [if_neg (fun z => z h1), if_pos (fun z => e ⟨h1, z⟩)]
          exact i1
        · rw [if_pos h1]
          exact i1
  rw [g238]
  exact key c 0 (by omega)
theorem c_worst (X : XS) (h : H2) (iv : InvP h) : EC X 138 [.ref 5] h (fun v1 h1 => EC X 238 [.ref 86] h1 (fun v2 h2 => v1 = v2 ∧ InvP h2 ∧ Wr [0, 7] h h2)) := by
  have iv' := iv
  obtain ⟨c, hc, e1, e2, hr⟩ := iv
  simp only [g138, cI, e65 X _ _ c hc e1, rI_i, e238 X _ _ c hc e2 hr]
  exact ⟨trivial, iv', Wr_refl _ _⟩
