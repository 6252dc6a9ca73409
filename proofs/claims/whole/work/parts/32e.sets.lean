/-! sets of casks that may have been cut -/
def bdB (dr hl : Nat → Int32) (s : Int32) (p : Nat) : Bool := decide ((hl p = 1 ∧ dr p &&& s = 0) ∨ (hl p = 2 ∧ ¬ dr p &&& s = 0))
def cutB (dr hl : Nat → Int32) (pp : Nat) (s : Int32) : Bool := !anyB (bdB dr hl s) pp
theorem anyB_false {f : Nat → Bool} {n : Nat} : anyB f n = false ↔ ∀ j, j < n → f j = false := by
  constructor
  · intro h j hj
    cases hh : f j with
    | false => rfl
    | true =>
      have := anyB_iff.mpr ⟨j, hj, hh⟩
      rw [h] at this
      cases this
  · intro h
    cases hh : anyB f n with
    | false => rfl
    | true =>
      obtain ⟨j, hj, q⟩ := anyB_iff.mp hh
      rw [h j hj] at q
      cases q
theorem cutB_iff {dr hl : Nat → Int32} {pp : Nat} {s : Int32} : cutB dr hl pp s = true ↔ ∀ p, p < pp → (hl p = 1 → ¬ dr p &&& s = 0) ∧ (hl p = 2 → dr p &&& s = 0) := by
  unfold cutB
  rw [Bool.not_eq_true', anyB_false]
  constructor
  · intro h p hp
    have := of_decide_eq_false (h p hp)
    refine ⟨fun q z => this (Or.inl ⟨q, z⟩), fun q => ?_⟩
    by_cases z : dr p &&& s = 0
    · exact z
    · exact absurd (Or.inr ⟨q, z⟩) this
  · intro h p hp
    refine decide_eq_false ?_
    rintro (⟨q, z⟩ | ⟨q, z⟩)
    · exact (h p hp).1 q z
    · exact z ((h p hp).2 q)
theorem cutB_f {dr hl : Nat → Int32} {pp : Nat} {s : Int32} {p : Nat} (hp : p < pp) (hb : bdB dr hl s p = true) : cutB dr hl pp s = false := by
  unfold cutB
  rw [anyB_iff.mpr ⟨p, hp, hb⟩]
  rfl
theorem cutB_t {dr hl : Nat → Int32} {pp : Nat} {s : Int32} (h : ∀ p, p < pp → bdB dr hl s p = false) : cutB dr hl pp s = true := by
  unfold cutB
  rw [anyB_false.mpr h]
  rfl
theorem and_cm (a b : Int32) : a &&& b = b &&& a := b_ext (fun i _ => by rw [b_and, b_and, Bool.and_comm])
theorem hm_iff (dr hl : Nat → Int32) (s : Int32) : ∀ pp, (s &&& khm dr hl pp = 0 ↔ ∀ p, p < pp → hl p = 2 → dr p &&& s = 0) := by
  intro pp
  induction pp with
  | zero =>
    refine ⟨fun _ p hp => by omega, fun _ => ?_⟩
    refine b_ext (fun i _ => ?_)
    show bt (s &&& 0) i = _
    rw [b_and, b_0, Bool.and_false]
  | succ pp ih =>
    have e : khm dr hl (pp + 1) = if hl pp = 2 then khm dr hl pp ||| dr pp else khm dr hl pp := rfl
    by_cases c : hl pp = 2
    · rw [e, if_pos c]
      have sp : s &&& (khm dr hl pp ||| dr pp) = 0 ↔ s &&& khm dr hl pp = 0 ∧ dr pp &&& s = 0 := by
        rw [bt_0, bt_0, bt_0]
        constructor
        · intro h
          refine ⟨fun i hi => ?_, fun i hi => ?_⟩
          · have := h i hi
            rw [b_and, b_or] at this
            rw [b_and]
            cases h1 : bt s i <;> cases h2 : bt (khm dr hl pp) i <;> rw [h1, h2] at this <;> first | rfl | (simp at this)
          · have := h i hi
            rw [b_and, b_or] at this
            rw [b_and]
            cases h1 : bt s i <;> cases h2 : bt (dr pp) i <;> rw [h1, h2] at this <;> first | rfl | (simp at this)
        · rintro ⟨h1, h2⟩ i hi
          have q1 := h1 i hi
          have q2 := h2 i hi
          rw [b_and] at q1 q2
          rw [b_and, b_or]
          cases h3 : bt s i
          · rfl
          · rw [h3, Bool.true_and] at q1
            rw [h3, Bool.and_true] at q2
            rw [q1, q2]
            rfl
      rw [sp, ih]
      constructor
      · rintro ⟨h1, h2⟩ p hp hh
        by_cases ep : p = pp
        · subst ep; exact h2
        · exact h1 p (by omega) hh
      · intro h
        exact ⟨fun p hp hh => h p (by omega) hh, h pp (by omega) c⟩
    · rw [e, if_neg c, ih]
      constructor
      · intro h p hp hh
        by_cases ep : p = pp
        · subst ep; exact absurd hh c
        · exact h p (by omega) hh
      · intro h p hp hh
        exact h p (by omega) hh
theorem e13 (X : XS) (g : H2) (Q : Option Value → H2 → Prop) (dr hl : Nat → Int32) (pp : Nat) (hpp : pp ≤ 12) (e8 : hg g 62 8 = khm dr hl pp) (e10 : hg g 62 10 = nI pp) (r9 : ∀ p, p < pp → hg g 69 p = dr p) (r0 : ∀ p, p < pp → hg g 70 p = hl p) (s : Int32) :
    EC X 13 [.ref 62, .int s] g Q ↔ Q (some (.int (bz (cutB dr hl pp s)))) g := by
  rw [g13, e8]
  have hm := hm_iff dr hl s pp
  by_cases c : s &&& khm dr hl pp = 0
  · rw [if_pos c]
    have hn := hm.mp c
    have key : ∀ i p, p + i = pp → (∀ j, j < p → bdB dr hl s j = false) → (E X 13 13 [some (.ref 62), some (.int s), some (.int (nI p))] [] g Q ↔ Q (some (.int (bz (cutB dr hl pp s)))) g) := by
      intro i
      induction i with
      | zero =>
        intro p hp hf
        have : p = pp := by omega
        subst this
        rw [g13_13, e10, if_pos (nI_le (Nat.le_refl _) (by omega)), cutB_t hf]
        exact Iff.rfl
      | succ i ih =>
        intro p hp hf
        have kp : (nI p).toNatClampNeg = p := nI_clamp (by omega)
        have bp := bI p 12 (show p < 12 by omega) (by omega)
        rw [g13_13, e10, if_neg (nI_ge (by omega) (by omega)), kp, if_neg bp, if_neg bp, r0 p (by omega), r9 p (by omega), nI_1]
        have next : bdB dr hl s p = false → (E X 13 13 [some (.ref 62), some (.int s), some (.int (nI (p + 1)))] [] g Q ↔ Q (some (.int (bz (cutB dr hl pp s)))) g) := by
          intro z
          refine ih (p + 1) (by omega) (fun j hj => ?_)
          by_cases e : j = p
          · subst e; exact z
          · exact hf j (by omega)
        by_cases c1 : hl p = 1
        · rw [if_neg (fun z => z c1)]
          by_cases c2 : dr p &&& s = 0
          · rw [if_neg (fun z => z c2), cutB_f (show p < pp by omega) (decide_eq_true (Or.inl ⟨c1, c2⟩))]
            exact Iff.rfl
          · rw [if_pos c2]
            refine next (decide_eq_false ?_)
            rintro (z | z)
            · exact c2 z.2
            · rw [c1] at z
              exact absurd z.1 (by decide)
        · rw [if_pos c1]
          refine next (decide_eq_false ?_)
          rintro (z | z)
          · exact c1 z.1
          · exact z.2 (hn p (by omega) z.1)
    exact key pp 0 (by omega) (fun j hj => by omega)
  · rw [if_neg c]
    have : cutB dr hl pp s = false := by
      cases hh : cutB dr hl pp s with
      | false => rfl
      | true => exact absurd (hm.mpr (fun p hp q => (cutB_iff.mp hh p hp).2 q)) c
    rw [this]
    exact Iff.rfl
theorem e224 (X : XS) (g : H2) (Q : Option Value → H2 → Prop) (dr hl : Nat → Int32) (pp : Nat) (hpp : pp ≤ 12) (e10 : hg g 86 43 = nI pp) (r9 : ∀ p, p < pp → hg g 122 p = dr p) (ri : ∀ p, p < pp → bt (hg g 86 50) p = decide (hl p = 1)) (rw' : ∀ p, p < pp → bt (hg g 86 51) p = decide (hl p = 2)) (s : Int32) :
    EC X 224 [.ref 86, .int s] g Q ↔ Q (some (.int (bz (cutB dr hl pp s)))) g := by
  have key : ∀ i p u, p + i = pp → (∀ j, j < p → bdB dr hl s j = false) → (E X 224 2 [some (.ref 86), some (.int s), some (.int (nI p)), u] [] g Q ↔ Q (some (.int (bz (cutB dr hl pp s)))) g) := by
    intro i
    induction i with
    | zero =>
      intro p u hp hf
      have : p = pp := by omega
      subst this
      rw [g224_2u, e10, if_pos (nI_le (Nat.le_refl _) (by omega)), cutB_t hf]
      exact Iff.rfl
    | succ i ih =>
      intro p u hp hf
      have kp : (nI p).toNatClampNeg = p := nI_clamp (by omega)
      have bp := bI p 12 (show p < 12 by omega) (by omega)
      have next : bdB dr hl s p = false → ∀ u, (E X 224 2 [some (.ref 86), some (.int s), some (.int (nI (p + 1))), u] [] g Q ↔ Q (some (.int (bz (cutB dr hl pp s)))) g) := by
        intro z u
        refine ih (p + 1) u (by omega) (fun j hj => ?_)
        by_cases e : j = p
        · subst e; exact z
        · exact hf j (by omega)
      have found : bdB dr hl s p = true → (Q (some (.int 0)) g ↔ Q (some (.int (bz (cutB dr hl pp s)))) g) := by
        intro z
        rw [cutB_f (show p < pp by omega) z]
        exact Iff.rfl
      have i1 : ((hg g 86 50) >>> (nI p &&& 31)) &&& 1 = 1 ↔ hl p = 1 := by
        rw [shr1 _ (by omega), ri p (by omega)]
        exact decide_eq_true_iff
      have i2 : ((hg g 86 51) >>> (nI p &&& 31)) &&& 1 = 1 ↔ hl p = 2 := by
        rw [shr1 _ (by omega), rw' p (by omega)]
        exact decide_eq_true_iff
      have n0 : (0 : Int32) = 0 := rfl
      have n12 : ∀ {x : Int32}, x = 1 → ¬ x = 2 := fun q z => by rw [q] at z; exact absurd z (by decide)
      rw [g224_2u, e10, if_neg (nI_ge (by omega) (by omega)), kp, if_neg bp, r9 p (by omega), g224_26u, g224_26u, if_pos n0, if_pos n0, if_neg n1_0, if_neg n1_0, nI_1]
      by_cases c2 : dr p &&& s = 0
      · rw [if_pos c2]
        by_cases c1 : hl p = 1
        · rw [if_neg (fun z => z (i1.mpr c1))]
          exact found (decide_eq_true (Or.inl ⟨c1, c2⟩))
        · rw [if_pos (fun z => c1 (i1.mp z))]
          have nx := next (decide_eq_false (fun z => z.elim (fun q => c1 q.1) (fun q => q.2 c2)))
          by_cases c3 : hl p = 2
          · rw [if_neg (fun z => z (i2.mpr c3))]
            exact nx _
          · rw [if_pos (fun z => c3 (i2.mp z))]
            exact nx _
      · rw [if_neg c2]
        by_cases c1 : hl p = 1
        · have c1' := n12 c1
          rw [if_neg (fun z => z (i1.mpr c1)), if_pos (fun z => c1' (i2.mp z))]
          exact next (decide_eq_false (fun z => z.elim (fun q => c2 q.2) (fun q => c1' q.1))) _
        · rw [if_pos (fun z => c1 (i1.mp z))]
          by_cases c3 : hl p = 2
          · rw [if_neg (fun z => z (i2.mpr c3))]
            exact found (decide_eq_true (Or.inr ⟨c3, c2⟩))
          · rw [if_pos (fun z => c3 (i2.mp z))]
            exact next (decide_eq_false (fun z => z.elim (fun q => c1 q.1) (fun q => c3 q.1))) _
  rw [g224]
  exact key pp 0 _ (by omega) (fun j hj => by omega)
/-! the mathematics of the sets; ct s: the s-th set is one -/
def szS (s : Nat) : Int32 := nI (cnt (bt (nI s)) 12)
def fewF (ct : Nat → Bool) : Nat → Int32
  | 0 => -9
  | s + 1 => if ct s = true ∧ (fewF ct s = -9 ∨ szS s < fewF ct s) then szS s else fewF ct s
def falF (ct : Nat → Bool) : Nat → Int32
  | 0 => 0
  | s + 1 => if ct s = true then (if cnt ct s = 0 then nI s else falF ct s &&& nI s) else falF ct s
def fsoF (ct : Nat → Bool) : Nat → Int32
  | 0 => 0
  | s + 1 => if ct s = true then fsoF ct s ||| nI s else fsoF ct s
theorem fso_bt (ct : Nat → Bool) (i : Nat) : ∀ n, bt (fsoF ct n) i = anyB (fun s => ct s && bt (nI s) i) n := by
  intro n
  induction n with
  | zero => exact b_0 i
  | succ n ih =>
    show bt (if ct n = true then fsoF ct n ||| nI n else fsoF ct n) i = (anyB _ n || (ct n && bt (nI n) i))
    cases h : ct n with
    | true => rw [if_pos rfl, b_or, ih, Bool.true_and]
    | false => rw [if_neg (by decide), ih, Bool.false_and, Bool.or_false]
theorem cnt_0 {f : Nat → Bool} : ∀ {n : Nat}, cnt f n = 0 ↔ anyB f n = false := by
  intro n
  induction n with
  | zero => exact ⟨fun _ => rfl, fun _ => rfl⟩
  | succ n ih =>
    show cnt f n + (if f n = true then 1 else 0) = 0 ↔ (anyB f n || f n) = false
    cases h : f n with
    | true => rw [if_pos rfl, Bool.or_true]; exact ⟨fun z => by omega, fun z => by cases z⟩
    | false => rw [if_neg (by decide), Bool.or_false]; exact ih
theorem fal_bt (ct : Nat → Bool) (i : Nat) : ∀ n, bt (falF ct n) i = (anyB ct n && !anyB (fun s => ct s && !bt (nI s) i) n) := by
  intro n
  induction n with
  | zero => exact b_0 i
  | succ n ih =>
    show bt (if ct n = true then (if cnt ct n = 0 then nI n else falF ct n &&& nI n) else falF ct n) i = ((anyB ct n || ct n) && !(anyB (fun s => ct s && !bt (nI s) i) n || (ct n && !bt (nI n) i)))
    cases h : ct n with
    | true =>
      rw [if_pos rfl, Bool.or_true, Bool.true_and, Bool.true_and]
      by_cases c : cnt ct n = 0
      · rw [if_pos c]
        have z := cnt_0.mp c
        have : anyB (fun s => ct s && !bt (nI s) i) n = false := anyB_false.mpr (fun j hj => by
          show (ct j && _) = false
          rw [anyB_false.mp z j hj]
          rfl)
        rw [this, Bool.false_or, Bool.not_not]
      · rw [if_neg c, b_and, ih]
        have : anyB ct n = true := by
          cases hh : anyB ct n with
          | true => rfl
          | false => exact absurd (cnt_0.mpr hh) c
        rw [this, Bool.true_and, Bool.not_or, Bool.not_not]
    | false => rw [if_neg (by decide), ih, Bool.or_false, Bool.false_and, Bool.or_false]
theorem set_bits {cc s : Nat} (hc : cc ≤ 12) (hs : s < 2 ^ cc) {i : Nat} (hi : i < 32) (hb : bt (nI s) i = true) : i < cc := by
  rw [bt_nI hi] at hb
  by_cases q : i < cc
  · exact q
  · have : s < 2 ^ i := Nat.lt_of_lt_of_le hs (Nat.pow_le_pow_right (by omega) (by omega))
    rw [Nat.testBit_lt_two_pow this] at hb
    cases hb
/-- the suspects -/
def susF (hm : Int32) (cc : Nat) : Int32 := (((1 : Int32) <<< (nI cc &&& 31)) - 1) &&& (hm ^^^ (-1))
theorem sus_bt (hm : Int32) {cc : Nat} (hc : cc ≤ 12) {i : Nat} (hi : i < 32) : bt (susF hm cc) i = (decide (i < cc) && !bt hm i) := by
  unfold susF
  have e1 : (1 : Int32) = nI 1 := by decide
  have p1 : 1 ≤ 2 ^ cc := Nat.one_le_two_pow
  rw [p2 (by omega), b_and, bt_not hi]
  have : (nI (2 ^ cc) - 1 : Int32) = nI (2 ^ cc - 1) := by
    rw [e1, pk_sub p1]
  rw [this, bt_nI hi, Nat.testBit_two_pow_sub_one]
theorem as_set {x : Int32} {cc : Nat} (hc : cc ≤ 12) (h : ∀ i, i < 32 → bt x i = true → i < cc) : ∃ s, s < 2 ^ cc ∧ x = nI s := by
  obtain ⟨m, hm, e, -, -⟩ := nI_small (x := x) (n := cc) (fun i hi hi2 => by
    cases hh : bt x i with
    | false => rfl
    | true => have := h i hi2 hh; omega)
  exact ⟨m, hm, e⟩
theorem cut_up {dr hl : Nat → Int32} {pp : Nat} {s t : Int32} (hs : cutB dr hl pp s = true) (hst : ∀ i, i < 32 → bt s i = true → bt t i = true) (ht : t &&& khm dr hl pp = 0) : cutB dr hl pp t = true := by
  rw [cutB_iff] at hs ⊢
  have h2 := (hm_iff dr hl t pp).mp ht
  intro p hp
  refine ⟨fun q z => ?_, h2 p hp⟩
  apply (hs p hp).1 q
  rw [bt_meet] at z ⊢
  intro i hi hh
  exact z i hi ⟨hh.1, hst i hi hh.2⟩
theorem cut_hm {dr hl : Nat → Int32} {pp : Nat} {s : Int32} (hs : cutB dr hl pp s = true) : s &&& khm dr hl pp = 0 := (hm_iff dr hl s pp).mpr (fun p hp q => (cutB_iff.mp hs p hp).2 q)
theorem sus_hm (hm : Int32) {cc : Nat} (hc : cc ≤ 12) {t : Int32} (ht : ∀ i, i < 32 → bt t i = true → bt (susF hm cc) i = true) : t &&& hm = 0 := by
  rw [bt_meet]
  intro i hi hh
  have := ht i hi hh.1
  rw [sus_bt hm hc hi, hh.2, Bool.not_true, Bool.and_false] at this
  cases this
theorem in_sus {dr hl : Nat → Int32} {pp cc s : Nat} (hc : cc ≤ 12) (hs : s < 2 ^ cc) (hcut : cutB dr hl pp (nI s) = true) {i : Nat} (hi : i < 32) (hb : bt (nI s) i = true) : bt (susF (khm dr hl pp) cc) i = true := by
  rw [sus_bt _ hc hi, decide_eq_true (set_bits hc hs hi hb), Bool.true_and]
  have := bt_meet.mp (cut_hm hcut) i hi
  cases hh : bt (khm dr hl pp) i with
  | false => rfl
  | true => exact absurd ⟨hb, hh⟩ this
theorem some_eq (dr hl : Nat → Int32) (pp cc : Nat) (hc : cc ≤ 12) : (if cutB dr hl pp (susF (khm dr hl pp) cc) = true then susF (khm dr hl pp) cc else 0) = fsoF (fun s => cutB dr hl pp (nI s)) (2 ^ cc) := by
  refine b_ext (fun i hi => ?_)
  rw [fso_bt]
  by_cases c : cutB dr hl pp (susF (khm dr hl pp) cc) = true
  · rw [if_pos c]
    obtain ⟨s0, hs0, e0⟩ := as_set (x := susF (khm dr hl pp) cc) hc (fun i hi hb => by
      rw [sus_bt _ hc hi, Bool.and_eq_true] at hb
      exact of_decide_eq_true hb.1)
    cases hb : bt (susF (khm dr hl pp) cc) i with
    | true =>
      symm
      refine anyB_iff.mpr ⟨s0, hs0, ?_⟩
      show (cutB dr hl pp (nI s0) && bt (nI s0) i) = true
      rw [← e0, c, hb]
      rfl
    | false =>
      symm
      refine anyB_false.mpr (fun s hs => ?_)
      cases h1 : cutB dr hl pp (nI s) with
      | false => rfl
      | true =>
        cases h2 : bt (nI s) i with
        | false => rfl
        | true =>
          have := in_sus hc hs h1 hi h2
          rw [hb] at this
          cases this
  · rw [if_neg c, b_0]
    symm
    refine anyB_false.mpr (fun s hs => ?_)
    cases h1 : cutB dr hl pp (nI s) with
    | false => rfl
    | true =>
      exfalso
      exact c (cut_up h1 (fun i hi hb => in_sus hc hs h1 hi hb) (sus_hm _ hc (fun _ _ z => z)))
def alD (S : Int32) (ct : Int32 → Bool) : Nat → Int32
  | 0 => 0
  | c + 1 => if bt S c = true ∧ ¬ ct (S &&& (bit c ^^^ (-1))) = true then alD S ct c ||| bit c else alD S ct c
theorem alD_bt (S : Int32) (ct : Int32 → Bool) (i : Nat) (hi : i < 32) : ∀ n, n ≤ 12 → bt (alD S ct n) i = (decide (i < n) && (bt S i && !ct (S &&& (bit i ^^^ (-1))))) := by
  intro n
  induction n with
  | zero => intro _; rw [show decide (i < 0) = false from decide_eq_false (by omega), Bool.false_and]; exact b_0 i
  | succ n ih =>
    intro hn
    have ih' := ih (by omega)
    show bt (if bt S n = true ∧ ¬ ct (S &&& (bit n ^^^ (-1))) = true then alD S ct n ||| bit n else alD S ct n) i = _
    by_cases c : bt S n = true ∧ ¬ ct (S &&& (bit n ^^^ (-1))) = true
    · rw [if_pos c, b_or, bt_bit (by omega), ih']
      by_cases e : i = n
      · subst e
        rw [decide_eq_true (show i = i from rfl), Bool.or_true, decide_eq_true (show i < i + 1 by omega), Bool.true_and, c.1, Bool.true_and]
        cases hh : ct (S &&& (bit i ^^^ (-1))) with
        | true => exact absurd hh c.2
        | false => rfl
      · rw [decide_eq_false e, Bool.or_false]
        have : decide (i < n) = decide (i < n + 1) := by
          by_cases l : i < n
          · rw [decide_eq_true l, decide_eq_true (by omega)]
          · rw [decide_eq_false l, decide_eq_false (by omega)]
        rw [this]
    · rw [if_neg c, ih']
      by_cases e : i = n
      · subst e
        rw [decide_eq_false (show ¬ i < i by omega), Bool.false_and, decide_eq_true (show i < i + 1 by omega), Bool.true_and]
        cases h1 : bt S i with
        | false => rfl
        | true =>
          cases h2 : ct (S &&& (bit i ^^^ (-1))) with
          | true => rfl
          | false => exact absurd ⟨h1, by rw [h2]; decide⟩ c
      · have : decide (i < n) = decide (i < n + 1) := by
          by_cases l : i < n
          · rw [decide_eq_true l, decide_eq_true (by omega)]
          · rw [decide_eq_false l, decide_eq_false (by omega)]
        rw [this]
theorem all_eq (dr hl : Nat → Int32) (pp cc : Nat) (hc : cc ≤ 12) : alD (fsoF (fun s => cutB dr hl pp (nI s)) (2 ^ cc)) (cutB dr hl pp) cc = falF (fun s => cutB dr hl pp (nI s)) (2 ^ cc) := by
  refine b_ext (fun i hi => ?_)
  rw [alD_bt _ _ i hi cc hc, fal_bt, ← some_eq dr hl pp cc hc]
  have hset : ∀ x : Int32, (∀ j, j < 32 → bt x j = true → bt (susF (khm dr hl pp) cc) j = true) → ∃ s, s < 2 ^ cc ∧ x = nI s := by
    intro x hx
    refine as_set hc (fun j hj hb => ?_)
    have := hx j hj hb
    rw [sus_bt _ hc hj, Bool.and_eq_true] at this
    exact of_decide_eq_true this.1
  by_cases c : cutB dr hl pp (susF (khm dr hl pp) cc) = true
  · rw [if_pos c]
    obtain ⟨s0, hs0, e0⟩ := hset _ (fun _ _ z => z)
    have ex : anyB (fun s => cutB dr hl pp (nI s)) (2 ^ cc) = true := anyB_iff.mpr ⟨s0, hs0, by show cutB dr hl pp (nI s0) = true; rw [← e0]; exact c⟩
    rw [ex, Bool.true_and]
    have sm : ∀ j, j < 32 → bt (susF (khm dr hl pp) cc &&& (bit i ^^^ (-1))) j = (bt (susF (khm dr hl pp) cc) j && !decide (j = i)) := fun j hj => by rw [b_and, bt_not hj, bt_bit hi]
    cases hA : anyB (fun s => cutB dr hl pp (nI s) && !bt (nI s) i) (2 ^ cc) with
    | true =>
      -- a set lacks i
      obtain ⟨s, hs, q⟩ := anyB_iff.mp hA
      rw [Bool.and_eq_true] at q
      have q2 : bt (nI s) i = false := by
        have := q.2
        cases hh : bt (nI s) i with
        | false => rfl
        | true => rw [hh] at this; cases this
      have : cutB dr hl pp (susF (khm dr hl pp) cc &&& (bit i ^^^ (-1))) = true := by
        refine cut_up q.1 (fun j hj hb => ?_) (sus_hm _ hc (fun j hj hb => ?_))
        · rw [sm j hj, in_sus hc hs q.1 hj hb, Bool.true_and]
          by_cases e : j = i
          · subst e; rw [q2] at hb; cases hb
          · rw [decide_eq_false e]; rfl
        · rw [sm j hj, Bool.and_eq_true] at hb
          exact hb.1
      rw [this, Bool.not_true, Bool.and_false, Bool.and_false]
    | false =>
      have al := anyB_false.mp hA
      have hb : bt (susF (khm dr hl pp) cc) i = true := by
        have := al s0 hs0
        rw [← e0, c, Bool.true_and] at this
        cases hh : bt (susF (khm dr hl pp) cc) i with
        | true => rfl
        | false => rw [hh] at this; cases this
      have hic : i < cc := by
        have := hb
        rw [sus_bt _ hc hi, Bool.and_eq_true] at this
        exact of_decide_eq_true this.1
      rw [hb, decide_eq_true hic, Bool.true_and, Bool.true_and]
      cases hk : cutB dr hl pp (susF (khm dr hl pp) cc &&& (bit i ^^^ (-1))) with
      | false => rfl
      | true =>
        exfalso
        obtain ⟨s1, hs1, e1⟩ := hset (susF (khm dr hl pp) cc &&& (bit i ^^^ (-1))) (fun j hj hb => by
          rw [sm j hj, Bool.and_eq_true] at hb
          exact hb.1)
        have := al s1 hs1
        rw [← e1, hk, Bool.true_and, sm i hi, decide_eq_true (show i = i from rfl), Bool.not_true, Bool.and_false] at this
        cases this
  · rw [if_neg c, b_0, Bool.false_and, Bool.and_false]
    have : anyB (fun s => cutB dr hl pp (nI s)) (2 ^ cc) = false := by
      refine anyB_false.mpr (fun s hs => ?_)
      cases h1 : cutB dr hl pp (nI s) with
      | false => rfl
      | true =>
        exfalso
        exact c (cut_up h1 (fun i hi hb => in_sus hc hs h1 hi hb) (sus_hm _ hc (fun _ _ z => z)))
    rw [this]
    rfl
