/-! heaps: fills, copies; ints by their values (fb_ rows begun from the kit's COUNTS) -/
theorem fb_rng (x : Int32) : -2147483648 ≤ x.toInt ∧ x.toInt < 2147483648 := by
  have h1 := Int32.le_toInt x
  have h2 := Int32.toInt_lt x
  omega
theorem fb_bmod {z : Int} (h1 : -2147483648 ≤ z) (h2 : z < 2147483648) : z.bmod (2 ^ 32) = z := by
  rw [Int.bmod_eq_of_le (by omega) (by omega)]
theorem fb_addI {x y : Int32} (h1 : -2147483648 ≤ x.toInt + y.toInt) (h2 : x.toInt + y.toInt < 2147483648) : (x + y).toInt = x.toInt + y.toInt := by
  rw [Int32.toInt_add, fb_bmod h1 h2]
theorem fb_subI {x y : Int32} (h1 : -2147483648 ≤ x.toInt - y.toInt) (h2 : x.toInt - y.toInt < 2147483648) : (x - y).toInt = x.toInt - y.toInt := by
  rw [Int32.toInt_sub, fb_bmod h1 h2]
theorem fb_mulI {x y : Int32} (h1 : -2147483648 ≤ x.toInt * y.toInt) (h2 : x.toInt * y.toInt < 2147483648) : (x * y).toInt = x.toInt * y.toInt := by
  rw [Int32.toInt_mul, fb_bmod h1 h2]
theorem fa_lt (a b : Int32) : a < b ↔ a.toInt < b.toInt := Int32.lt_iff_toInt_lt
theorem fa_le (a b : Int32) : a ≤ b ↔ a.toInt ≤ b.toInt := Int32.le_iff_toInt_le
theorem H2_ext {h h' : H2} (h1 : h.1 = h'.1) (hh : ∀ a i, hg h a i = hg h' a i) (h2 : h.2.2 = h'.2.2) : h = h' :=
  Prod.ext h1 (Prod.ext (funext fun a => funext fun i => hh a i) h2)
/-- cells s .. s + n - 1 of a become x -/
def sF (h : H2) (a s n : Nat) (x : Int32) : H2 := hI h a (fun j => if s ≤ j ∧ j < s + n then x else h.2.1 a j)
theorem hg_sF (h : H2) (a s n : Nat) (x : Int32) (b j : Nat) : hg (sF h a s n x) b j = if b = a ∧ s ≤ j ∧ j < s + n then x else hg h b j := by
  unfold hg sF
  show upR h.2.1 a _ b j = _
  by_cases hb : b = a
  · subst hb
    rw [upR_self]
    by_cases hj : s ≤ j ∧ j < s + n
    · rw [if_pos hj, if_pos ⟨rfl, hj⟩]
    · rw [if_neg hj, if_neg (fun q => hj q.2)]
  · rw [upR_ne _ _ hb, if_neg (fun q => hb q.1)]
theorem hg_sFn (h : H2) {a s n : Nat} {x : Int32} {b j : Nat} (hb : b ≠ a) : hg (sF h a s n x) b j = hg h b j := by rw [hg_sF, if_neg (fun q => hb q.1)]
theorem sF_0 (h : H2) (a s : Nat) (x : Int32) : sF h a s 0 x = h := by
  refine H2_ext ?_ ?_ ?_ <;> try rfl
  intro b j
  rw [hg_sF, if_neg (fun q => by omega)]
theorem sF_succ (h : H2) (a s n : Nat) (x : Int32) : sI (sF h a s n x) a (s + n) x = sF h a s (n + 1) x := by
  refine H2_ext ?_ ?_ ?_ <;> try rfl
  intro b j
  rw [hg_sI, hg_sF, hg_sF]
  by_cases hb : b = a
  · by_cases hj : j = s + n
    · rw [if_pos ⟨hb, hj⟩, if_pos ⟨hb, by omega, by omega⟩]
    · rw [if_neg (fun q => hj q.2)]
      by_cases hi : s ≤ j ∧ j < s + n
      · rw [if_pos ⟨hb, hi⟩, if_pos ⟨hb, by omega, by omega⟩]
      · rw [if_neg (fun q => hi q.2), if_neg (fun q => by omega)]
  · rw [if_neg (fun q => hb q.1), if_neg (fun q => hb q.1), if_neg (fun q => hb q.1)]
theorem hg_sC (h : H2) (a a0 sp dp n : Nat) (b j : Nat) : hg (sC h a a0 sp dp n) b j = if b = a ∧ dp ≤ j ∧ j < dp + n then hg h a0 (sp + (j - dp)) else hg h b j := by
  unfold hg sC
  show upR h.2.1 a _ b j = _
  by_cases hb : b = a
  · subst hb
    rw [upR_self]
    unfold va_cpy
    by_cases hj : dp ≤ j ∧ j < dp + n
    · rw [if_pos hj, if_pos ⟨rfl, hj⟩]
    · rw [if_neg hj, if_neg (fun q => hj q.2)]
  · rw [upR_ne _ _ hb, if_neg (fun q => hb q.1)]
theorem hg_sCn (h : H2) {a a0 sp dp n : Nat} {b j : Nat} (hb : b ≠ a) : hg (sC h a a0 sp dp n) b j = hg h b j := by rw [hg_sC, if_neg (fun q => hb q.1)]
theorem Wr_sF {s : List Nat} {h h' : H2} {a i n : Nat} {x : Int32} (w : Wr s h h') (hk : ∀ j, comp a j ∈ s) : Wr s h (sF h' a i n x) := by
  refine ⟨fun b j q => ?_, fun q b j => w.2.1 q b j, fun q => w.2.2 q⟩
  rw [hg_sF, if_neg]
  · exact w.1 b j q
  · rintro ⟨rfl, -⟩
    exact q (hk j)
theorem Wr_sC {s : List Nat} {h h' : H2} {a a0 i d n : Nat} (w : Wr s h h') (hk : ∀ j, comp a j ∈ s) : Wr s h (sC h' a a0 i d n) := by
  refine ⟨fun b j q => ?_, fun q b j => w.2.1 q b j, fun q => w.2.2 q⟩
  rw [hg_sC, if_neg]
  · exact w.1 b j q
  · rintro ⟨rfl, -⟩
    exact q (hk j)
/-- Arrays.fill -/
theorem e270 (X : XS) (h : H2) (Q : Option Value → H2 → Prop) (a N : Nat) (ha : a < 137) (h5 : 5 ≤ a) (hs : shT X.1 a = (0, N)) (hN : N < 2 ^ 31) (x : Int32) :
    EC X 270 [.ref a, .int x] h Q ↔ Q none (sF h a 0 N x) := by
  have o1 : okT X.1 137 h.1 a 0 = true := by
    unfold okT
    rw [hs, show Nat.blt a 137 = true from Nat.blt_eq.mpr ha]
    rfl
  have o2 : Nat.ble 5 a = true := Nat.ble_eq.mpr h5
  have key : ∀ m k, k + m = N → (E X 270 5 [some (.ref a), some (.int x), some (.int (nI k)), some (.int (nI N))] [] (sF h a 0 k x) Q ↔ Q none (sF h a 0 N x)) := by
    intro m
    induction m with
    | zero =>
      intro k hk
      have : k = N := by omega
      subst this
      rw [g270_5, if_pos (nI_le (Nat.le_refl _) hN)]
    | succ m ih =>
      intro k hk
      have hkk : (nI k).toNatClampNeg = k := nI_clamp (by omega)
      have o3 : okT X.1 137 (sF h a 0 k x).1 a 0 = true := o1
      rw [← ih (k + 1) (by omega), g270_5, if_neg (nI_ge (by omega) hN), o3, o2, hs, hkk, if_neg (bI k N (by omega) hN), nI_1]
      show E X 270 5 _ [] (sI (sF h a 0 k x) a k x) Q ↔ _
      have := sF_succ h a 0 k x
      rw [Nat.zero_add] at this
      rw [this]
  rw [g270, hs]
  have c1 : (Nat.ble (0, N).1 3 && (Nat.blt a 137 || Nat.blt a h.1)) = true := by
    rw [show Nat.blt a 137 = true from Nat.blt_eq.mpr ha]
    rfl
  rw [c1]
  show E X 270 5 [some (.ref a), some (.int x), some (.int (nI 0)), some (.int (nI N))] [] h Q ↔ _
  have := key N 0 (by omega)
  rw [sF_0] at this
  exact this
