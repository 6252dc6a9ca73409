/-! the jury -/
theorem gJ_sJ (h : H2) (a i : Nat) (x : Int64) (b j : Nat) : gJ (sJ h a i x) b j = if b = a ∧ j = i then x else gJ h b j := rfl
theorem gJ_sI (h : H2) (a i : Nat) (x : Int32) (b j : Nat) : gJ (sI h a i x) b j = gJ h b j := rfl
theorem hg_sJ (h : H2) (a i : Nat) (x : Int64) (b j : Nat) : hg (sJ h a i x) b j = hg h b j := rfl
def pr (f : Nat → Nat) : Nat → Nat
  | 0 => 1
  | n + 1 => pr f n * f n
theorem pr_congr {f g : Nat → Nat} : ∀ {n : Nat}, (∀ k, k < n → f k = g k) → pr f n = pr g n := by
  intro n
  induction n with
  | zero => intro _; rfl
  | succ n ih => intro h; unfold pr; rw [ih (fun k hk => h k (by omega)), h n (by omega)]
theorem pr_le {f : Nat → Nat} : ∀ {n : Nat}, (∀ k, k < n → f k ≤ 20) → pr f n ≤ 20 ^ n := by
  intro n
  induction n with
  | zero => intro _; exact Nat.le_refl _
  | succ n ih =>
    intro h
    unfold pr
    rw [Nat.pow_succ]
    exact Nat.mul_le_mul (ih (fun k hk => h k (by omega))) (h n (by omega))
theorem pr_pos {f : Nat → Nat} : ∀ {n : Nat}, (∀ k, k < n → 1 ≤ f k) → 1 ≤ pr f n := by
  intro n
  induction n with
  | zero => intro _; exact Nat.le_refl _
  | succ n ih =>
    intro h
    unfold pr
    exact Nat.mul_le_mul (ih (fun k hk => h k (by omega))) (h n (by omega))
theorem pr_mono {f g : Nat → Nat} : ∀ {n : Nat}, (∀ k, k < n → f k ≤ g k) → pr f n ≤ pr g n := by
  intro n
  induction n with
  | zero => intro _; exact Nat.le_refl _
  | succ n ih =>
    intro h
    unfold pr
    exact Nat.mul_le_mul (ih (fun k hk => h k (by omega))) (h n (by omega))
theorem pr_sum {p q : Nat → Nat} : ∀ {n : Nat}, (∀ k, k < n + 1 → p k ≤ q k) → pr p (n + 1) + pr (fun k => q k - p k) (n + 1) ≤ pr q (n + 1) := by
  intro n
  induction n with
  | zero =>
    intro h
    have := h 0 (by omega)
    show 1 * p 0 + 1 * (q 0 - p 0) ≤ 1 * q 0
    omega
  | succ n ih =>
    intro h
    have a1 := ih (fun k hk => h k (by omega))
    have a2 : pr p (n + 1) ≤ pr q (n + 1) := pr_mono (fun k hk => h k (by omega))
    have a3 : pr (fun k => q k - p k) (n + 1) ≤ pr q (n + 1) := pr_mono (fun k hk => Nat.sub_le _ _)
    have a4 := h (n + 1) (by omega)
    show pr p (n + 1) * p (n + 1) + pr (fun k => q k - p k) (n + 1) * (q (n + 1) - p (n + 1)) ≤ pr q (n + 1) * q (n + 1)
    have e : q (n + 1) = p (n + 1) + (q (n + 1) - p (n + 1)) := by omega
    have b1 := Nat.mul_le_mul_right (p (n + 1)) a2
    have b2 := Nat.mul_le_mul_right (q (n + 1) - p (n + 1)) a3
    calc _ ≤ pr q (n + 1) * p (n + 1) + pr q (n + 1) * (q (n + 1) - p (n + 1)) := Nat.add_le_add b1 b2
      _ = pr q (n + 1) * q (n + 1) := by rw [← Nat.mul_add, ← e]
def InvJ (h : H2) : Prop := ∃ (n : Nat) (p q : Nat → Nat), n ≤ 12 ∧ hg h 74 9 = nI n ∧ hg h 86 67 = nI n ∧ (∀ k, k < n → hg h 130 k = nI (p k) ∧ hg h 131 k = nI (q k) ∧ p k ≤ q k ∧ q k ≤ 20 ∧ 1 ≤ q k) ∧ gJ h 74 10 = lN (pr p n) ∧ gJ h 74 11 = lN (pr (fun k => q k - p k) n) ∧ gJ h 74 12 = lN (pr q n)
theorem c_dismiss (X : XS) (h : H2) (iv : InvJ h) : EC X 144 [.ref 5] h (fun v1 h1 => EC X 246 [.ref 86] h1 (fun v2 h2 => v1 = v2 ∧ InvJ h2 ∧ Wr [0, 9] h h2)) := by
  obtain ⟨n, p, q, hn, n1, n2, -⟩ := iv
  rw [g144]
  show EC X 37 _ _ _
  rw [g37, rI_i]
  dsimp only
  rw [g246, n1]
  have m9 : (9 : Nat) ∈ [0, 9] := by decide
  refine ⟨?_, ⟨0, p, q, by omega, ?_, ?_, ?_, ?_, ?_, ?_⟩, ?_⟩
  · rw [hg_sJ, hg_sJ, hg_sJ, hg_ne _ (by decide), n2]
  · rw [hg_ne _ (by decide), hg_sJ, hg_sJ, hg_sJ, hg_eq]
    rfl
  · rw [hg_eq]
    rfl
  · intro k hk
    omega
  · rfl
  · rfl
  · rfl
  · exact Wr_sI (Wr_sJ (Wr_sJ (Wr_sJ (Wr_sI (Wr_refl _ _) m9) m9) m9) m9) m9
theorem rng1 {x : Int32} {M : Nat} (hM : M < 2 ^ 30) (h : 1 ≤ x ∧ x ≤ nI M) : ∃ k, 1 ≤ k ∧ k ≤ M ∧ x = nI k := by
  obtain ⟨k, hk, rfl⟩ := nI_of (i_nlt.mpr (Int32.le_trans (by decide) h.1))
  have e1 : (1 : Int32) = nI 1 := by decide
  rw [e1, nI_leI (by omega) hk] at h
  exact ⟨k, h.1, (nI_leI hk (by omega)).mp h.2, rfl⟩
theorem rng0 {x : Int32} {M : Nat} (hM : M < 2 ^ 30) (h : 0 ≤ x ∧ x ≤ nI M) : ∃ k, k ≤ M ∧ x = nI k := by
  obtain ⟨k, hk, rfl⟩ := nI_of (i_nlt.mpr h.1)
  exact ⟨k, (nI_leI hk (by omega)).mp h.2, rfl⟩
theorem c_juror (X : XS) (h : H2) (iv : InvJ h) (p0 p1 : Int32) : EC X 143 [.ref 5, .int p0, .int p1] h (fun v1 h1 => EC X 245 [.ref 86, .int p0, .int p1] h1 (fun v2 h2 => v1 = v2 ∧ InvJ h2 ∧ Wr [0, 9] h h2)) := by
  have iv' := iv
  obtain ⟨n, p, q, hn, n1, n2, od, g1, g2, g3⟩ := iv
  rw [g143]
  simp only [cI, e161, rI_i, b2i_0]
  by_cases hp : 1 ≤ p1 ∧ p1 ≤ 20
  · rw [if_neg (fun z => z hp)]
    by_cases hq : 0 ≤ p0 ∧ p0 ≤ p1
    · rw [if_neg (fun z => z hq), g36, n1]
      have e12 : (12 : Int32) = nI 12 := by decide
      by_cases h12 : n = 12
      · subst h12
        rw [if_neg (fun z => z (by decide)), rI_i, g245]
        simp only [cI, e168, rI_i, b2i_0, hp, hq, and_self, not_true, not_false_iff, if_true, if_false, n2, e12]
        exact ⟨trivial, iv', Wr_refl _ _⟩
      · have n12 : ¬ nI n = 12 := by rw [e12, nI_eq (by omega) (by omega)]; exact h12
        have hkk : (nI n).toNatClampNeg = n := nI_clamp (by omega)
        have bk := bI n 12 (show n < 12 by omega) (by omega)
        have e20 : (20 : Int32) = nI 20 := by decide
        obtain ⟨b, b1, b2, rfl⟩ := rng1 (M := 20) (by omega) (by rw [← e20]; exact hp)
        obtain ⟨a, a1, rfl⟩ := rng0 (M := b) (by omega) hq
        rw [if_pos n12, rI_i, g245, nI_1]
        have q67 : ∀ x y z w, hg (sJ (sJ (sJ (sI h 74 9 x) 74 10 y) 74 11 z) 74 12 w) 86 67 = nI n := fun x y z w => by rw [hg_sJ, hg_sJ, hg_sJ, hg_ne _ (by decide), n2]
        simp only [cI, e168, rI_i, b2i_0, hp, hq, and_self, not_true, not_false_iff, if_true, if_false, q67, n12, hkk, bk, nI_1]
        have m9 : (9 : Nat) ∈ [0, 9] := by decide
        refine ⟨trivial, ⟨n + 1, fun k => if k = n then a else p k, fun k => if k = n then b else q k, by omega, ?_, ?_, ?_, ?_, ?_, ?_⟩, ?_⟩
        · rw [hg_ne _ (by decide), hg_ne _ (by decide), hg_ne _ (by decide), hg_sJ, hg_sJ, hg_sJ, hg_eq]
        · rw [hg_eq]
        · intro k hk
          by_cases e : k = n
          · subst e
            rw [hg_ne _ (by decide), hg_ne _ (by decide), hg_eq, hg_ne _ (by decide), hg_eq]
            dsimp only
            rw [if_pos rfl, if_pos rfl]
            exact ⟨rfl, rfl, a1, b2, b1⟩
          · rw [hg_ne _ (by decide), hg_ne _ (by decide), hg_nj _ e, hg_sJ, hg_sJ, hg_sJ, hg_ne _ (by decide), hg_ne _ (by decide), hg_nj _ e, hg_ne _ (by decide), hg_sJ, hg_sJ, hg_sJ, hg_ne _ (by decide)]
            dsimp only
            rw [if_neg e, if_neg e]
            exact od k (by omega)
        · show gJ h 74 10 * (nI a).toInt64 = lN (pr _ n * (if n = n then a else p n))
          rw [g1, nI_l (by omega), lN_mul, if_pos rfl, pr_congr (fun k hk => if_neg (by omega))]
        · show gJ h 74 11 * (nI b - nI a).toInt64 = lN (pr _ n * ((if n = n then b else q n) - (if n = n then a else p n)))
          rw [g2, pk_sub a1, nI_l (by omega), lN_mul, if_pos rfl, if_pos rfl]
          rw [pr_congr (f := fun k => (if k = n then b else q k) - (if k = n then a else p k)) (g := fun k => q k - p k) (fun k hk => by rw [if_neg (by omega), if_neg (by omega)])]
        · show gJ h 74 12 * (nI b).toInt64 = lN (pr _ n * (if n = n then b else q n))
          rw [g3, nI_l (by omega), lN_mul, if_pos rfl, pr_congr (fun k hk => if_neg (by omega))]
        · exact Wr_sI (Wr_sI (Wr_sI (Wr_sJ (Wr_sJ (Wr_sJ (Wr_sI (Wr_refl _ _) m9) m9) m9) m9) m9) m9) m9
    · rw [if_pos hq, g245]
      simp only [cI, e168, rI_i, b2i_0, hp, hq, and_self, not_true, not_false_iff, if_false]
      exact ⟨trivial, iv', Wr_refl _ _⟩
  · rw [if_pos hp, g245]
    simp only [cI, e168, rI_i, b2i_0, hp, not_false_iff, if_true]
    exact ⟨trivial, iv', Wr_refl _ _⟩
/-- what is left after n rounds of dividing -/
def eu : Nat → Nat → Nat → Nat
  | 0, _, b => b
  | n + 1, a, b => if b = 0 then 0 else eu n b (a % b)
def fb2 : Nat → Nat × Nat
  | 0 => (1, 1)
  | n + 1 => ((fb2 n).2, (fb2 n).1 + (fb2 n).2)
theorem eu_fib : ∀ (n a b : Nat), b ≤ a → eu n a b ≠ 0 → (fb2 n).1 ≤ b ∧ (fb2 n).2 ≤ a := by
  intro n
  induction n with
  | zero =>
    intro a b hab h
    unfold eu at h
    exact ⟨by show 1 ≤ b; omega, by show 1 ≤ a; omega⟩
  | succ n ih =>
    intro a b hab h
    unfold eu at h
    by_cases e : b = 0
    · rw [if_pos e] at h
      exact absurd rfl h
    · rw [if_neg e] at h
      have lt := Nat.mod_lt a (show b > 0 by omega)
      obtain ⟨i1, i2⟩ := ih b (a % b) (by omega) h
      have d := Nat.div_add_mod a b
      have : 1 ≤ a / b := (Nat.one_le_div_iff (by omega)).mpr hab
      have m : b ≤ b * (a / b) := Nat.le_mul_of_pos_right b (by omega)
      exact ⟨i2, by show (fb2 n).1 + (fb2 n).2 ≤ a; omega⟩
theorem fb100 : 2 ^ 63 ≤ (fb2 100).1 := by decide +kernel
theorem lgc {b : Nat} (hb : b < 2 ^ 63) : lg_cmp (lN b) 0 = 0 ↔ b = 0 := by
  have e0 : (0 : Int64) = lN 0 := by decide
  unfold lg_cmp
  rw [e0]
  by_cases h : b = 0
  · subst h
    exact ⟨fun _ => rfl, fun _ => by decide⟩
  · refine ⟨fun z => ?_, fun z => absurd z h⟩
    rw [if_pos (show lN b > lN 0 from (pk_lLT (by omega) hb).mpr (by omega))] at z
    exact absurd z (by decide)
theorem lN0 {b : Nat} (hb : b < 2 ^ 63) : lN b = 0 ↔ b = 0 := by
  have e0 : (0 : Int64) = lN 0 := by decide
  rw [e0, pk_lEQ hb (by omega)]
theorem gcd_st (a b : Nat) : Nat.gcd b (a % b) = Nat.gcd a b := by
  rw [Nat.gcd_comm a b, Nat.gcd_rec b a, Nat.gcd_comm]
theorem e39 (X : XS) (h : H2) (Q : Option Value → H2 → Prop) (a b : Nat) (hab : b ≤ a) (ha : a < 2 ^ 63) : EC X 39 [.long (lN a), .long (lN b)] h Q ↔ Q (some (.long (lN (Nat.gcd a b)))) h := by
  have e100 : (100 : Int32) = nI 100 := by decide
  have key : ∀ i k x y d e u, k + i = 100 → y ≤ x → x < 2 ^ 63 → eu i x y = 0 → (E X 39 9 [some (.long d), none, some (.long e), none, some (.long (lN x)), none, some (.long (lN y)), none, some (.int (nI k)), u, none] [] h Q ↔ Q (some (.long (lN (Nat.gcd x y)))) h) := by
    intro i
    induction i with
    | zero =>
      intro k x y d e u hk hyx hx hz
      have : k = 100 := by omega
      subst this
      have hy : y = 0 := hz
      subst hy
      rw [g39_9, if_pos (by rw [e100]; exact nI_le (Nat.le_refl _) (by omega)), Nat.gcd_zero_right]
    | succ i ih =>
      intro k x y d e u hk hyx hx hz
      rw [g39_9, if_neg (by rw [e100]; exact nI_ge (by omega) (by omega))]
      unfold eu at hz
      by_cases c : y = 0
      · subst c
        rw [if_pos ((lgc (by omega)).mpr rfl), Nat.gcd_zero_right]
      · rw [if_neg c] at hz
        rw [if_neg (fun z => c ((lgc (by omega)).mp z)), if_neg (fun z => c ((lN0 (by omega)).mp z)), pk_lRem hx (by omega) (by omega), nI_1]
        have lt := Nat.mod_lt x (show y > 0 by omega)
        rw [ih (k + 1) y (x % y) d e _ (by omega) (by omega) (by omega) hz, gcd_st]
  rw [g39]
  refine key 100 0 a b _ _ _ (by omega) hab ha ?_
  cases hh : eu 100 a b with
  | zero => rfl
  | succ m =>
    have := (eu_fib 100 a b hab (by omega)).1
    have f := fb100
    omega
theorem e247 (X : XS) (h : H2) (Q : Option Value → H2 → Prop) (d1 l2 : Int32) (d3 d5 : Int64) (l7 l9 : Int64) : ∀ (y x : Nat) (u : Option Value), x < 2 ^ 63 → y < 2 ^ 63 → 0 < Nat.gcd x y →
    (E X 247 135 [some (.ref 86), some (.int d1), some (.int l2), some (.long d3), none, some (.long d5), none, some (.long l7), none, some (.long l9), none, some (.long (lN x)), none, some (.long (lN y)), none, u, none] [] h Q ↔ if ¬ l2 = 0 then Q (some (.long (l7 / lN (Nat.gcd x y)))) h else Q (some (.long (l9 / lN (Nat.gcd x y)))) h) := by
  intro y
  induction y using Nat.strongRecOn with
  | _ y ih =>
    intro x u hx hy hg0
    rw [g247_135]
    by_cases c : y = 0
    · subst c
      rw [Nat.gcd_zero_right] at hg0
      rw [if_pos ((lgc (by omega)).mpr rfl), Nat.gcd_zero_right]
      have n0 : ¬ lN x = 0 := fun z => by have := (lN0 hx).mp z; omega
      rw [if_neg n0, if_neg n0]
    · rw [if_neg (fun z => c ((lgc hy).mp z)), if_neg (fun z => c ((lN0 hy).mp z)), pk_lRem hx (by omega) hy]
      have lt := Nat.mod_lt x (show y > 0 by omega)
      rw [ih (x % y) lt y _ hy (by omega) (by rw [gcd_st]; exact hg0), gcd_st]
theorem jury_M (X : XS) (h : H2) (Q : Option Value → H2 → Prop) (n : Nat) (hn : n ≤ 12) (n2 : hg h 86 67 = nI n) (p q : Nat → Nat) (od : ∀ k, k < n → hg h 130 k = nI (p k) ∧ hg h 131 k = nI (q k) ∧ p k ≤ q k ∧ q k ≤ 20 ∧ 1 ≤ q k) (l1 l2 : Int32) (R : Prop)
    (hR : (if ¬ l1 = 0 then if ¬ l1 = 1 then E X 247 135 [some (.ref 86), some (.int l1), some (.int l2), some (.long (lN (pr p n))), none, some (.long (lN (pr (fun k => q k - p k) n))), none, some (.long (lN (pr q n))), none, some (.long (lN (pr q n) - lN (pr p n) - lN (pr (fun k => q k - p k) n))), none, some (.long (lN (pr q n) - lN (pr p n) - lN (pr (fun k => q k - p k) n))), none, some (.long (lN (pr q n))), none, none, none] [] h Q
      else E X 247 135 [some (.ref 86), some (.int l1), some (.int l2), some (.long (lN (pr p n))), none, some (.long (lN (pr (fun k => q k - p k) n))), none, some (.long (lN (pr q n))), none, some (.long (lN (pr (fun k => q k - p k) n))), none, some (.long (lN (pr (fun k => q k - p k) n))), none, some (.long (lN (pr q n))), none, none, none] [] h Q
      else E X 247 135 [some (.ref 86), some (.int l1), some (.int l2), some (.long (lN (pr p n))), none, some (.long (lN (pr (fun k => q k - p k) n))), none, some (.long (lN (pr q n))), none, some (.long (lN (pr p n))), none, some (.long (lN (pr p n))), none, some (.long (lN (pr q n))), none, none, none] [] h Q) ↔ R) :
    E X 247 40 [some (.ref 86), some (.int l1), some (.int l2), some (.long 1), none, some (.long 1), none, some (.long 1), none, some (.int 0), none, none, none, none, none, none, none] [] h Q ↔ R := by
  have key : ∀ i k, k + i = n → (E X 247 40 [some (.ref 86), some (.int l1), some (.int l2), some (.long (lN (pr p k))), none, some (.long (lN (pr (fun k => q k - p k) k))), none, some (.long (lN (pr q k))), none, some (.int (nI k)), none, none, none, none, none, none, none] [] h Q ↔ R) := by
    intro i
    induction i with
    | zero =>
      intro k hk
      have : k = n := by omega
      subst this
      rw [g247_40, n2, if_pos (nI_le (Nat.le_refl _) (by omega))]
      exact hR
    | succ i ih =>
      intro k hk
      have hkk : (nI k).toNatClampNeg = k := nI_clamp (by omega)
      have bk := bI k 12 (show k < 12 by omega) (by omega)
      obtain ⟨o1, o2, o3, o4, o5⟩ := od k (by omega)
      rw [g247_40, n2, if_neg (nI_ge (by omega) (by omega)), hkk, if_neg bk, if_neg bk, if_neg bk, if_neg bk, o1, o2, pk_sub o3, nI_l (by omega), nI_l (by omega), nI_l (by omega), lN_mul, lN_mul, lN_mul, nI_1]
      exact ih (k + 1) (by omega)
  exact key n 0 (by omega)
theorem jury_D (X : XS) (h : H2) (Q : Option Value → H2 → Prop) (d1 l2 : Int32) (a b : Nat) (hab : b ≤ a) (ha : a < 2 ^ 63) (h0 : 0 < a) (e : gJ h 74 12 = lN a) : E X 38 56 [some (.ref 74), some (.int d1), some (.int l2), none, none, none, none] [.long (lN b)] h Q ↔ if ¬ l2 = 0 then Q (some (.long (lN a / lN (Nat.gcd b a)))) h else Q (some (.long (lN b / lN (Nat.gcd b a)))) h := by
  have g0 : 0 < Nat.gcd a b := Nat.gcd_pos_of_pos_left b h0
  have gl : Nat.gcd a b ≤ a := Nat.gcd_le_left b h0
  have n0 : ¬ lN (Nat.gcd a b) = 0 := fun z => by have := (lN0 (by omega)).mp z; omega
  have n1 : ¬ lg_cmp (lN (Nat.gcd a b)) 0 = 0 := fun z => by have := (lgc (by omega)).mp z; omega
  rw [g38_56, e]
  show EC X 39 _ _ _ ↔ _
  rw [e39 X h _ a b hab ha, rJ_i]
  dsimp only
  rw [if_pos n1, if_neg n0, if_neg n0, e, Nat.gcd_comm b a]
theorem c_jury (X : XS) (h : H2) (iv : InvJ h) (p0 p1 : Int32) : EC X 145 [.ref 5, .int p0, .int p1] h (fun v1 h1 => EC X 247 [.ref 86, .int p0, .int p1] h1 (fun v2 h2 => v1 = v2 ∧ InvJ h2 ∧ Wr [0, 9] h h2)) := by
  have iv' := iv
  obtain ⟨n, p, q, hn, n1, n2, od, g1, g2, g3⟩ := iv
  rw [g145]
  simp only [cI, e161, rI_i, b2i_0]
  by_cases hp : 0 ≤ p0 ∧ p0 ≤ 2
  · rw [if_neg (fun z => z hp)]
    by_cases hq : 0 ≤ p1 ∧ p1 ≤ 1
    · rw [if_neg (fun z => z hq), n1]
      have md : ∀ R, EC X 247 [.ref 86, .int p0, .int p1] h R ↔ if ¬ nI n = 0 then E X 247 40 [some (.ref 86), some (.int p0), some (.int p1), some (.long 1), none, some (.long 1), none, some (.long 1), none, some (.int 0), none, none, none, none, none, none, none] [] h R else R (some (.long vLOST)) h := by
        intro R
        rw [g247]
        simp only [cI, e168, rI_i, b2i_0, hp, hq, and_self, not_true, if_false, n2]
      cases n with
      | zero =>
        rw [if_neg (fun z => z (by decide)), md, if_neg (fun z => z (by decide))]
        exact ⟨rfl, iv', Wr_refl _ _⟩
      | succ n =>
        have nn : ¬ nI (n + 1) = 0 := nI_ne0 (by omega) (by omega)
        rw [if_pos nn]
        have e63 : (20 : Nat) ^ 12 < 2 ^ 63 := by decide
        have p12 : (20 : Nat) ^ (n + 1) ≤ 20 ^ 12 := Nat.pow_le_pow_right (by omega) hn
        have b3 : pr q (n + 1) ≤ 20 ^ (n + 1) := pr_le (fun k hk => (od k hk).2.2.2.1)
        have b1 : pr p (n + 1) ≤ pr q (n + 1) := pr_mono (fun k hk => (od k hk).2.2.1)
        have b2 : pr (fun k => q k - p k) (n + 1) ≤ pr q (n + 1) := pr_mono (fun k hk => Nat.sub_le _ _)
        have b4 : 1 ≤ pr q (n + 1) := pr_pos (fun k hk => (od k hk).2.2.2.2)
        have b5 : pr p (n + 1) + pr (fun k => q k - p k) (n + 1) ≤ pr q (n + 1) := pr_sum (fun k hk => (od k hk).2.2.1)
        have both : ∀ (up : Nat) (d1 : Int32) (d3 d5 : Int64) (v : Value), up ≤ pr q (n + 1) → ∀ (R : Option Value → H2 → Prop), (E X 247 135 [some (.ref 86), some (.int d1), some (.int p1), some (.long d3), none, some (.long d5), none, some (.long (lN (pr q (n + 1)))), none, some (.long (lN up)), none, some (.long (lN up)), none, some (.long (lN (pr q (n + 1)))), none, none, none] [] h R ↔ if ¬ p1 = 0 then R (some (.long (lN (pr q (n + 1)) / lN (Nat.gcd up (pr q (n + 1)))))) h else R (some (.long (lN up / lN (Nat.gcd up (pr q (n + 1)))))) h) := by
          intro up d1 d3 d5 v hup R
          exact e247 X h R d1 p1 d3 d5 (lN (pr q (n + 1))) (lN up) (pr q (n + 1)) up none (by omega) (by omega) (Nat.gcd_pos_of_pos_right _ (by omega))
        have fin : ∀ (up : Nat), up ≤ pr q (n + 1) → (∀ (R : Option Value → H2 → Prop), EC X 247 [.ref 86, .int p0, .int p1] h R ↔ if ¬ p1 = 0 then R (some (.long (lN (pr q (n + 1)) / lN (Nat.gcd up (pr q (n + 1)))))) h else R (some (.long (lN up / lN (Nat.gcd up (pr q (n + 1)))))) h) →
            E X 38 56 [some (.ref 74), some (.int p0), some (.int p1), none, none, none, none] [.long (lN up)] h (fun v h1 => rJ v False fun x => EC X 247 [.ref 86, .int p0, .int p1] h1 (fun v2 h2 => some (.long x) = v2 ∧ InvJ h2 ∧ Wr [0, 9] h h2)) := by
          intro up hup hm
          rw [jury_D X h _ p0 p1 (pr q (n + 1)) up hup (by omega) (by omega) g3]
          by_cases c : p1 = 0
          · rw [if_neg (fun z => z c), rJ_i, hm, if_neg (fun z => z c)]
            exact ⟨rfl, iv', Wr_refl _ _⟩
          · rw [if_pos c, rJ_i, hm, if_pos c]
            exact ⟨rfl, iv', Wr_refl _ _⟩
        have mdR : ∀ (up : Nat), up ≤ pr q (n + 1) → (∀ R : Option Value → H2 → Prop, (if ¬ p0 = 0 then if ¬ p0 = 1 then E X 247 135 [some (.ref 86), some (.int p0), some (.int p1), some (.long (lN (pr p (n + 1)))), none, some (.long (lN (pr (fun k => q k - p k) (n + 1)))), none, some (.long (lN (pr q (n + 1)))), none, some (.long (lN (pr q (n + 1)) - lN (pr p (n + 1)) - lN (pr (fun k => q k - p k) (n + 1)))), none, some (.long (lN (pr q (n + 1)) - lN (pr p (n + 1)) - lN (pr (fun k => q k - p k) (n + 1)))), none, some (.long (lN (pr q (n + 1)))), none, none, none] [] h R
              else E X 247 135 [some (.ref 86), some (.int p0), some (.int p1), some (.long (lN (pr p (n + 1)))), none, some (.long (lN (pr (fun k => q k - p k) (n + 1)))), none, some (.long (lN (pr q (n + 1)))), none, some (.long (lN (pr (fun k => q k - p k) (n + 1)))), none, some (.long (lN (pr (fun k => q k - p k) (n + 1)))), none, some (.long (lN (pr q (n + 1)))), none, none, none] [] h R
              else E X 247 135 [some (.ref 86), some (.int p0), some (.int p1), some (.long (lN (pr p (n + 1)))), none, some (.long (lN (pr (fun k => q k - p k) (n + 1)))), none, some (.long (lN (pr q (n + 1)))), none, some (.long (lN (pr p (n + 1)))), none, some (.long (lN (pr p (n + 1)))), none, some (.long (lN (pr q (n + 1)))), none, none, none] [] h R) ↔ (if ¬ p1 = 0 then R (some (.long (lN (pr q (n + 1)) / lN (Nat.gcd up (pr q (n + 1)))))) h else R (some (.long (lN up / lN (Nat.gcd up (pr q (n + 1)))))) h)) →
            (∀ (R : Option Value → H2 → Prop), EC X 247 [.ref 86, .int p0, .int p1] h R ↔ if ¬ p1 = 0 then R (some (.long (lN (pr q (n + 1)) / lN (Nat.gcd up (pr q (n + 1)))))) h else R (some (.long (lN up / lN (Nat.gcd up (pr q (n + 1)))))) h) := by
          intro up hup hh R
          rw [md, if_pos nn]
          exact jury_M X h R (n + 1) hn n2 p q od p0 p1 _ (hh R)
        show EC X 38 _ _ _
        rw [g38]
        by_cases c0 : p0 = 0
        · rw [if_pos c0, g1]
          exact fin _ b1 (mdR _ b1 (fun R => by rw [if_neg (fun z => z c0)]; exact both _ p0 _ _ .null b1 R))
        · rw [if_neg c0]
          by_cases c1 : p0 = 1
          · rw [if_pos c1, g2]
            exact fin _ b2 (mdR _ b2 (fun R => by rw [if_pos c0, if_neg (fun z => z c1)]; exact both _ p0 _ _ .null b2 R))
          · rw [if_neg c1, g1, g2, g3, lN_sub b1, lN_sub (by omega)]
            have b6 : pr q (n + 1) - pr p (n + 1) - pr (fun k => q k - p k) (n + 1) ≤ pr q (n + 1) := by omega
            exact fin _ b6 (mdR _ b6 (fun R => by rw [if_pos c0, if_pos c1, lN_sub b1, lN_sub (by omega)]; exact both _ p0 _ _ .null b6 R))
    · rw [if_pos hq, g247]
      simp only [cI, e168, rI_i, b2i_0, hp, hq, and_self, not_true, not_false_iff, if_true, if_false]
      exact ⟨trivial, iv', Wr_refl _ _⟩
  · rw [if_pos hp, g247]
    simp only [cI, e168, rI_i, b2i_0, hp, not_false_iff, if_true]
    exact ⟨trivial, iv', Wr_refl _ _⟩
