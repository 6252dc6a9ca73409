/-! the reader of texts, as the program does it -/
set_option maxRecDepth 100000 in
set_option maxHeartbeats 2000000 in
theorem g40 (X : Nat × (Nat → Int32)) (h : H2) (Q : Option Value → H2 → Prop) (o : Nat) : EC X 40 [.ref o] h Q ↔ (bif okT X.1 137 h.1 o 7 then (bif okT X.1 137 h.1 o 7 then Q none (sI (sI h o 2 (-9 : Int32)) o 6 (-9 : Int32)) else False) else False) := wp_iff (cm := cd40) rfl (stops := []) 400 0 _ _ _
def cdx (f : Nat → Int32) (n p : Nat) : Int32 := if p < n then f p else -9
def tbl (l k : Nat) : Int32 := stv (fun _ => 0) l k
def on1 (l m : Nat) (x : Int32) : Option Nat := frs (fun k => decide (x = tbl l k)) m
def nxp (p : Nat) : Option Nat → Nat
  | none => p
  | some _ => p + 1
def dH (g : H2) (a p : Nat) (r : Nat → Int32) : H2 := sR (sI g 15 2 (nI p)) a r
theorem dH_p (g : H2) {a : Nat} (p : Nat) (r : Nat → Int32) (ha : 137 ≤ a) : hg (dH g a p r) 15 2 = nI p := by
  unfold dH
  rw [hg_sRn _ (by omega), hg_eq]
theorem dH_a (g : H2) (a p : Nat) (r : Nat → Int32) (i : Nat) : hg (dH g a p r) a i = r i := by
  unfold dH
  rw [hg_sRe]
theorem dH_o (g : H2) (a p : Nat) (r : Nat → Int32) (b j : Nat) (h1 : b ≠ a) (h2 : ¬ (b = 15 ∧ j = 2)) : hg (dH g a p r) b j = hg g b j := by
  unfold dH
  rw [hg_sRn _ h1, hg_sI, if_neg h2]
theorem dH_sp (g : H2) {a : Nat} (p q : Nat) (r : Nat → Int32) (ha : 137 ≤ a) : sI (dH g a p r) 15 2 (nI q) = dH g a q r := by
  refine H2_ext ?_ ?_ ?_ <;> try rfl
  intro b j
  by_cases e : b = a
  · subst e
    rw [hg_ne _ (by omega), dH_a, dH_a]
  · by_cases e2 : b = 15 ∧ j = 2
    · obtain ⟨rfl, rfl⟩ := e2
      rw [hg_eq, dH_p _ _ _ ha]
    · rw [hg_sI, if_neg e2, dH_o _ _ _ _ _ _ e e2, dH_o _ _ _ _ _ _ e e2]
theorem dH_sa (g : H2) (a p : Nat) (r : Nat → Int32) (i : Nat) (x : Int32) : sI (dH g a p r) a i x = dH g a p (fun j => if j = i then x else r j) := by
  unfold dH
  rw [sI_sR]
def RdOk (g : H2) (f : Nat → Int32) (n : Nat) : Prop := n ≤ 60 ∧ hg g 15 1 = nI n ∧ ∀ j, j < n → hg g 16 j = f j
theorem e74 (X : XS) (Q : Option Value → H2 → Prop) (g : H2) (f : Nat → Int32) (n a p : Nat) (r : Nat → Int32) (ha : 137 ≤ a) (ok : RdOk g f n) (hp : p ≤ n) (c : Int32) (hc : ¬ c = -9) : EC X 74 [.ref 15, .int c] (dH g a p r) Q ↔ if cdx f n p = c then Q (some (.int 1)) (dH g a (p + 1) r) else Q (some (.int 0)) (dH g a p r) := by
  obtain ⟨hn, e1, e16⟩ := ok
  have hk : (nI p).toNatClampNeg = p := nI_clamp (by omega)
  rw [g74, dH_p _ _ _ ha, dH_o _ _ _ _ _ _ (by omega) (by decide), e1, hk]
  unfold cdx
  by_cases c1 : p < n
  · rw [if_neg (nI_ge c1 (by omega)), if_neg (bI p 60 (by omega) (by omega)), if_pos c1, dH_o _ _ _ _ _ _ (by omega) (by omega), e16 p c1, if_pos rfl, if_neg n1_0, nI_1, dH_sp _ _ _ _ ha]
    by_cases c2 : f p = c
    · rw [if_neg (fun z => z c2), if_pos c2]
    · rw [if_pos c2, if_neg c2]
  · rw [if_pos (nI_le (by omega) (by omega)), if_pos rfl, if_neg c1, if_neg (fun z => hc z.symm)]
theorem e75 (X : XS) (Q : Option Value → H2 → Prop) (g : H2) (f : Nat → Int32) (n a p : Nat) (r : Nat → Int32) (ha : 137 ≤ a) (ok : RdOk g f n) (hp : p ≤ n) (l m : Nat) (hl : l < 5) (h0 : 1 ≤ l) (hm : m ≤ 10) (hs : shT X.1 l = (0, m)) (ht : ∀ k, k < m → ¬ tbl l k = -9) : EC X 75 [.ref 15, .ref l] (dH g a p r) Q ↔ Q (some (.int (oN (on1 l m (cdx f n p))))) (dH g a (nxp p (on1 l m (cdx f n p))) r) := by
  have st : ∀ k, rdI X.2 (dH g a p r).2.1 l k = tbl l k := by
    intro k
    unfold rdI tbl
    rw [show Nat.blt l 5 = true from Nat.blt_eq.mpr hl]
    have : l = 1 ∨ l = 2 ∨ l = 3 ∨ l = 4 := by omega
    rcases this with rfl | rfl | rfl | rfl <;> rfl
  have o1 : okT X.1 137 (dH g a p r).1 l 0 = true := ok_of X.1 _ l m hs (by omega)
  have o2 : (Nat.ble (0, m).1 3 && (Nat.blt l 137 || Nat.blt l (dH g a p r).1)) = true := by
    rw [show Nat.blt l 137 = true from Nat.blt_eq.mpr (by omega)]
    rfl
  have key : ∀ i k, k + i = m → (∀ j, j < k → ¬ cdx f n p = tbl l j) → (E X 75 2 [some (.ref 15), some (.ref l), some (.int (nI k))] [] (dH g a p r) Q ↔ Q (some (.int (oN (on1 l m (cdx f n p))))) (dH g a (nxp p (on1 l m (cdx f n p))) r)) := by
    intro i
    induction i with
    | zero =>
      intro k hk hf
      have : k = m := by omega
      subst this
      have e : on1 l k (cdx f n p) = none := frs_none (fun j hj => decide_eq_false (hf j hj))
      rw [g75_2, hs, o2, e]
      show (if nI k ≤ nI k then _ else _) ↔ _
      rw [if_pos (nI_le (Nat.le_refl _) (by omega))]
      exact Iff.rfl
    | succ i ih =>
      intro k hk hf
      have hkk : (nI k).toNatClampNeg = k := nI_clamp (by omega)
      rw [g75_2, hs, o2, o1, hkk, st k]
      show (if nI m ≤ nI k then _ else (if _ then False else _)) ↔ _
      rw [if_neg (nI_ge (by omega) (by omega)), if_neg (bI k m (by omega) (by omega))]
      show EC X 74 _ _ _ ↔ _
      rw [e74 X _ g f n a p r ha ok hp _ (ht k (by omega))]
      by_cases c : cdx f n p = tbl l k
      · have e : on1 l m (cdx f n p) = some k := frs_some (p := fun k => decide (cdx f n p = tbl l k)) (decide_eq_true c) (fun j hj => decide_eq_false (hf j hj)) (by omega)
        rw [if_pos c, rI_i]
        dsimp only
        rw [if_neg n1_0, e]
        exact Iff.rfl
      · rw [if_neg c, rI_i]
        dsimp only
        rw [if_pos rfl, nI_1]
        refine ih (k + 1) (by omega) (fun j hj => ?_)
        by_cases e : j = k
        · subst e; exact c
        · exact hf j (by omega)
  rw [g75]
  exact key m 0 (by omega) (fun j hj => by omega)
theorem tb1 : ∀ k, k < 4 → ¬ tbl 1 k = -9 := by decide
theorem tb2 : ∀ k, k < 5 → ¬ tbl 2 k = -9 := by decide
theorem tb3 : ∀ k, k < 10 → ¬ tbl 3 k = -9 := by decide
theorem tb4 : ∀ k, k < 4 → ¬ tbl 4 k = -9 := by decide
theorem on1_lt {l m : Nat} {x : Int32} {k : Nat} (h : on1 l m x = some k) : k < m := (frs_is h).1
theorem on1_n {f : Nat → Int32} {n p l m k : Nat} (ht : ∀ k, k < m → ¬ tbl l k = -9) (h : on1 l m (cdx f n p) = some k) : p < n := by
  obtain ⟨q1, q2, -⟩ := frs_is h
  have q3 := of_decide_eq_true q2
  unfold cdx at q3
  by_cases c : p < n
  · exact c
  · rw [if_neg c] at q3
    exact absurd q3.symm (ht k q1)
def pNm (f : Nat → Int32) (n p : Nat) : Nat × Option Nat := match on1 3 10 (cdx f n p) with
  | none => (p, none)
  | some a => match on1 3 10 (cdx f n (p + 1)) with
    | none => (p + 1, some a)
    | some b => (p + 2, some (10 * a + b))
theorem pNm_le {f : Nat → Int32} {n p : Nat} (hp : p ≤ n) : (pNm f n p).1 ≤ n := by
  unfold pNm
  cases h1 : on1 3 10 (cdx f n p) with
  | none => exact hp
  | some a =>
    have b1 := on1_n tb3 h1
    dsimp only
    cases h2 : on1 3 10 (cdx f n (p + 1)) with
    | none => show p + 1 ≤ n; omega
    | some b => have b2 := on1_n tb3 h2; show p + 2 ≤ n; omega
theorem pNm_v {f : Nat → Int32} {n p v : Nat} (h : (pNm f n p).2 = some v) : v ≤ 99 := by
  unfold pNm at h
  cases h1 : on1 3 10 (cdx f n p) with
  | none => rw [h1] at h; cases h
  | some a =>
    have b1 := on1_lt h1
    rw [h1] at h
    dsimp only at h
    cases h2 : on1 3 10 (cdx f n (p + 1)) with
    | none => rw [h2] at h; cases h; omega
    | some b => have b2 := on1_lt h2; rw [h2] at h; cases h; omega
theorem e73 (X : XS) (Q : Option Value → H2 → Prop) (g : H2) (f : Nat → Int32) (n a p : Nat) (r : Nat → Int32) (ha : 137 ≤ a) (ok : RdOk g f n) (hp : p ≤ n) : EC X 73 [.ref 15] (dH g a p r) Q ↔ Q (some (.int (oN (pNm f n p).2))) (dH g a (pNm f n p).1 r) := by
  have hn := ok.1
  have one := fun p (R : Option Value → H2 → Prop) hp => e75 X R g f n a p r ha ok hp 3 10 (by omega) (by omega) (by omega) rfl tb3
  have e10 : (10 : Int32) = nI 10 := by decide
  rw [g73]
  show EC X 75 _ _ _ ↔ _
  rw [one p _ hp, rI_i]
  dsimp only
  unfold pNm
  cases h1 : on1 3 10 (cdx f n p) with
  | none =>
    rw [if_neg (fun z => z rfl)]
    exact Iff.rfl
  | some x =>
    have b1 := on1_n tb3 h1
    have l1 := on1_lt h1
    rw [if_pos (show ¬ oN (some x) = -9 from nI_m9 (by omega))]
    show EC X 75 _ (dH g a (p + 1) r) _ ↔ _
    rw [one (p + 1) _ (by omega), rI_i]
    dsimp only
    cases h2 : on1 3 10 (cdx f n (p + 1)) with
    | none =>
      rw [if_neg (fun z => z rfl)]
      exact Iff.rfl
    | some y =>
      have l2 := on1_lt h2
      rw [if_pos (show ¬ oN (some y) = -9 from nI_m9 (by omega))]
      show Q (some (.int (10 * nI x + nI y))) _ ↔ Q (some (.int (nI (10 * x + y)))) _
      rw [e10, pk_mul, nI_add]
      exact Iff.rfl
