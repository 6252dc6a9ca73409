/-! sheets -/
def InvH2 (h : H2) : Prop := ∀ k, k < 4 → ((hg h 12 k = -1 ∧ hg h 87 k = -9) ∨ (hg h 12 k = hg h 87 k ∧ 0 ≤ hg h 12 k ∧ hg h 12 k ≤ 2)) ∧ (∃ n : Nat, n ≤ 60 ∧ hg h 13 k = nI n ∧ hg h 88 k = nI n) ∧ ∀ j, j < 60 → hg h (8 + k) j = hg h 89 (60 * k + j)
def InvH (h : H2) : Prop := hg h 6 4 = hg h 86 0 ∧ InvH2 h
theorem sI_sI (h : H2) (a i : Nat) (x y : Int32) : sI (sI h a i x) a i y = sI h a i y := by
  refine H2_ext ?_ ?_ ?_ <;> try rfl
  intro b j
  rw [hg_sI, hg_sI, hg_sI]
  by_cases e : b = a ∧ j = i
  · rw [if_pos e, if_pos e]
  · rw [if_neg e, if_neg e, if_neg e]
theorem sI_cm (h : H2) {a b : Nat} (i j : Nat) (x y : Int32) (hab : a ≠ b) : sI (sI h a i x) b j y = sI (sI h b j y) a i x := by
  refine H2_ext ?_ ?_ ?_ <;> try rfl
  intro c m
  rw [hg_sI, hg_sI, hg_sI, hg_sI]
  by_cases e1 : c = b ∧ m = j
  · have e2 : ¬ (c = a ∧ m = i) := fun z => hab (z.1.symm.trans e1.1)
    rw [if_pos e1, if_neg e2, if_pos e1]
  · rw [if_neg e1]
    by_cases e2 : c = a ∧ m = i
    · rw [if_pos e2, if_pos e2]
    · rw [if_neg e2, if_neg e2, if_neg e1]
theorem e77 (X : XS) (h : H2) (Q : Option Value → H2 → Prop) (p0 : Int32) : EC X 77 [.int p0] h Q ↔ Q (some (.int (b2i (0 ≤ p0 ∧ p0 ≤ 3)))) h := by
  rw [g77]
  simp only [cI, e161, rI_i, b01_b2i, cond_true]
theorem e78 (X : XS) (h : H2) (Q : Option Value → H2 → Prop) (p0 : Int32) : EC X 78 [.int p0] h Q ↔ Q (some (.int (b2i (0 ≤ p0 ∧ p0 ≤ 2)))) h := by
  rw [g78]
  simp only [cI, e161, rI_i, b01_b2i, cond_true]
theorem e170 (X : XS) (h : H2) (Q : Option Value → H2 → Prop) (p0 : Int32) : EC X 170 [.int p0] h Q ↔ Q (some (.int (b2i (0 ≤ p0 ∧ p0 ≤ 3)))) h := by
  rw [g170]
  simp only [cI, e168, rI_i, b01_b2i, cond_true]
theorem e171 (X : XS) (h : H2) (Q : Option Value → H2 → Prop) (p0 : Int32) : EC X 171 [.int p0] h Q ↔ Q (some (.int (b2i (0 ≤ p0 ∧ p0 ≤ 2)))) h := by
  rw [g171]
  simp only [cI, e168, rI_i, b01_b2i, cond_true]
theorem sh4 {p0 : Int32} (h : 0 ≤ p0 ∧ p0 ≤ 3) : ∃ k, k < 4 ∧ p0 = nI k := by
  have e : (3 : Int32) = nI 4 - 1 := by decide
  rw [e] at h
  exact (inR_le (by omega)).mp h
theorem rc7 {k : Nat} (hk : k < 4) : Rc 7 k = some (8 + k) := by
  have : k = 0 ∨ k = 1 ∨ k = 2 ∨ k = 3 := by omega
  rcases this with rfl | rfl | rfl | rfl <;> rfl
theorem shS (L : Nat) {k : Nat} (hk : k < 4) : shT L (8 + k) = (0, 60) := by
  have : k = 0 ∨ k = 1 ∨ k = 2 ∨ k = 3 := by omega
  rcases this with rfl | rfl | rfl | rfl <;> rfl
theorem okS (L n : Nat) {k : Nat} (hk : k < 4) : okT L 137 n (8 + k) 0 = true := by
  unfold okT
  rw [shS L hk, show Nat.blt (8 + k) 137 = true from Nat.blt_eq.mpr (by omega)]
  rfl
theorem comS {k : Nat} (hk : k < 4) (j : Nat) : comp (8 + k) j = 1 := by
  have : k = 0 ∨ k = 1 ∨ k = 2 ∨ k = 3 := by omega
  rcases this with rfl | rfl | rfl | rfl <;> rfl
/-- what goes wrong with taking -/
def tkW (h : H2) (k : Nat) (lane i n : Int32) : Int32 := if hg h 12 k = -1 then 1 else if hg h 12 k = lane then (if 0 ≤ n then (if 0 ≤ i ∧ i ≤ hg h 13 k then (if hg h 13 k - n < i then 3 else 0) else 3) else 4) else 2
theorem e85 (X : XS) (h : H2) (Q : Option Value → H2 → Prop) (k : Nat) (hk : k < 4) (p1 p2 p3 : Int32) : EC X 85 [.ref 6, .int (nI k), .int p1, .int p2, .int p3] h Q ↔ Q (some (.int (tkW h k p1 p2 p3))) h := by
  have hkk : (nI k).toNatClampNeg = k := nI_clamp (by omega)
  rw [g85]
  simp only [hkk, bI k 4 hk (by omega), if_false, cI, e161, rI_i, b2i_0]
  unfold tkW
  by_cases h1 : hg h 12 k = -1
  · rw [if_neg (fun z => z h1), if_pos h1]
  · rw [if_pos h1, if_neg h1]
    by_cases h2 : hg h 12 k = p1
    · rw [if_pos h2, if_pos h2]
      by_cases h3 : 0 ≤ p3
      · rw [if_pos h3, if_pos h3]
        by_cases h4 : 0 ≤ p2 ∧ p2 ≤ hg h 13 k
        · rw [if_neg (fun z => z h4), if_pos h4]
          by_cases h5 : hg h 13 k - p3 < p2
          · rw [if_pos h5, if_pos h5]
          · rw [if_neg h5, if_neg h5]
        · rw [if_pos h4, if_neg h4]
      · rw [if_neg h3, if_neg h3]
    · rw [if_neg h2, if_neg h2]
theorem tkW_0 {h : H2} {k L : Nat} {p1 p2 p3 : Int32} (hL : L ≤ 60) (e : hg h 13 k = nI L) (h0 : tkW h k p1 p2 p3 = 0) : ¬ hg h 12 k = -1 ∧ hg h 12 k = p1 ∧ ∃ a b : Nat, p2 = nI a ∧ p3 = nI b ∧ a + b ≤ L := by
  unfold tkW at h0
  by_cases h1 : hg h 12 k = -1
  · rw [if_pos h1] at h0; exact absurd h0 (by decide)
  · rw [if_neg h1] at h0
    by_cases h2 : hg h 12 k = p1
    · rw [if_pos h2] at h0
      by_cases h3 : 0 ≤ p3
      · rw [if_pos h3] at h0
        by_cases h4 : 0 ≤ p2 ∧ p2 ≤ hg h 13 k
        · rw [if_pos h4, e] at h0
          by_cases h5 : nI L - p3 < p2
          · rw [if_pos h5] at h0; exact absurd h0 (by decide)
          · obtain ⟨b, hb, rfl⟩ := nI_of (i_nlt.mpr h3)
            obtain ⟨a, ha, rfl⟩ := nI_of (i_nlt.mpr h4.1)
            refine ⟨h1, h2, a, b, rfl, rfl, ?_⟩
            have t1 := nI_toInt (n := L) (by omega)
            have t2 := nI_toInt hb
            have t3 := nI_toInt ha
            rw [fa_lt, fb_subI (by omega) (by omega)] at h5
            omega
        · rw [if_neg h4] at h0; exact absurd h0 (by decide)
      · rw [if_neg h3] at h0; exact absurd h0 (by decide)
    · rw [if_neg h2] at h0; exact absurd h0 (by decide)
theorem tkW_s (h : H2) (a i : Nat) (x : Int32) (k : Nat) (p1 p2 p3 : Int32) (h1 : a ≠ 12) (h2 : a ≠ 13) : tkW (sI h a i x) k p1 p2 p3 = tkW h k p1 p2 p3 := by
  unfold tkW
  rw [hg_ne h (Ne.symm h1), hg_ne h (Ne.symm h2)]
theorem e84_A (X : XS) (h : H2) (Q : Option Value → H2 → Prop) (p0 p1 p2 p3 p4 : Int32) (hp : ¬ (0 ≤ p0 ∧ p0 ≤ 3)) : EC X 84 [.ref 6, .int p0, .int p1, .int p2, .int p3, .int p4] h Q ↔ Q (some (.int (-1))) (sI h 6 4 0) := by
  rw [g84]
  simp only [cI, e77, rI_i, b2i_0, hp, not_true, not_false_iff, if_false]
theorem e84_B (X : XS) (h : H2) (Q : Option Value → H2 → Prop) (p0 p1 p2 p3 p4 : Int32) (hp : 0 ≤ p0 ∧ p0 ≤ 3) (hq : ¬ ((0 ≤ p1 ∧ p1 ≤ 2) ∧ ¬ p2 = 0)) : EC X 84 [.ref 6, .int p0, .int p1, .int p2, .int p3, .int p4] h Q ↔ Q (some (.int (-2))) (sI h 6 4 0) := by
  rw [g84]
  simp only [cI, e77, e78, rI_i, b2i_0, hp, and_self, not_true, not_false_iff, if_true]
  by_cases h1 : 0 ≤ p1 ∧ p1 ≤ 2
  · rw [if_neg (fun z => z h1), if_neg (fun z => hq ⟨h1, z⟩)]
  · rw [if_pos h1]
theorem e84_C (X : XS) (h : H2) (Q : Option Value → H2 → Prop) (k L : Nat) (hk : k < 4) (hL : L ≤ 60) (eL : hg h 13 k = nI L) (p1 p2 p3 p4 : Int32) (hq : 0 ≤ p1 ∧ p1 ≤ 2) (h2 : ¬ p2 = 0) : EC X 84 [.ref 6, .int (nI k), .int p1, .int p2, .int p3, .int p4] h Q ↔ if tkW h k p1 p3 p4 = 0 then Q (some (.int 0)) (sC (sI h 6 4 0) 14 (8 + k) p3.toNatClampNeg 0 p4.toNatClampNeg) else Q (some (.int (-10 - tkW h k p1 p3 p4))) (sI h 6 4 (tkW h k p1 p3 p4)) := by
  have hkk : (nI k).toNatClampNeg = k := nI_clamp (by omega)
  have hp : 0 ≤ nI k ∧ nI k ≤ 3 := ⟨nI_pos' (by omega), nI_le (b := 3) (by omega) (by omega)⟩
  rw [g84]
  simp only [cI, e77, e78, rI_i, b2i_0, hp, hq, and_self, not_true, not_false_iff, if_true, if_false, h2, e85 X _ _ k hk, tkW_s _ 6 4 _ k _ _ _ (by decide) (by decide), hkk, bI k 4 hk (by omega), rc7 hk, oel_s', g79, sI_sI]
  by_cases h0 : tkW h k p1 p3 p4 = 0
  · rw [if_pos h0, if_pos h0]
    obtain ⟨-, -, a, b, rfl, rfl, hab⟩ := tkW_0 hL eL h0
    have ka : (nI a).toNatClampNeg = a := nI_clamp (by omega)
    have kb : (nI b).toNatClampNeg = b := nI_clamp (by omega)
    have c0 : (0 : Int32).toNatClampNeg = 0 := by decide
    rw [okS X.1 _ hk, show Nat.ble 5 (8 + k) = true from Nat.ble_eq.mpr (by omega), shS X.1 hk, ka, kb, c0]
    show (if _ then False else _) ↔ _
    rw [if_neg]
    rintro ((z | z | z) | z | z)
    · exact nI_pos (by omega) z
    · exact absurd z (by decide)
    · exact nI_pos (by omega) z
    · have : 60 < a + b := z
      omega
    · omega
  · rw [if_neg h0, if_neg h0]
theorem ln3 {x : Int32} (h0 : 0 ≤ x) (h1 : x ≤ 2) : x = 0 ∨ x = 1 ∨ x = 2 := by
  have e : (2 : Int32) = nI 3 - 1 := by decide
  rw [e] at h1
  obtain ⟨j, hj, rfl⟩ := (inR_le (show 3 < 2 ^ 31 by omega)).mp ⟨h0, h1⟩
  have : j = 0 ∨ j = 1 ∨ j = 2 := by omega
  rcases this with rfl | rfl | rfl
  · exact Or.inl rfl
  · exact Or.inr (Or.inl rfl)
  · exact Or.inr (Or.inr rfl)
theorem e172 (X : XS) (h : H2) (Q : Option Value → H2 → Prop) (iv : InvH2 h) (k : Nat) (hk : k < 4) (p1 p2 p3 : Int32) (hq : 0 ≤ p1 ∧ p1 ≤ 2) : EC X 172 [.ref 86, .int (nI k), .int p1, .int p2, .int p3] h Q ↔ if tkW h k p1 p2 p3 = 0 then Q (some (.int 0)) h else Q (some (.int (-10 - tkW h k p1 p2 p3))) (sI h 86 0 (tkW h k p1 p2 p3)) := by
  have hkk : (nI k).toNatClampNeg = k := nI_clamp (by omega)
  obtain ⟨hl, ⟨L, hL, e13, e88⟩, -⟩ := iv k hk
  rw [g172]
  simp only [hkk, bI k 4 hk (by omega), if_false, g172_27, cI, g166, rI_i, e88]
  rcases hl with ⟨l1, l2⟩ | ⟨l1, l2, l3⟩
  · have w : tkW h k p1 p2 p3 = 1 := by unfold tkW; rw [if_pos l1]
    rw [if_pos l2, if_neg (fun z => z l2), w, if_neg (by decide)]
  · have n1 : ¬ hg h 12 k = -1 := fun z => by rw [z] at l2; exact absurd l2 (by decide)
    have n9 : ¬ hg h 87 k = -9 := fun z => by rw [← l1] at z; rw [z] at l2; exact absurd l2 (by decide)
    rw [if_neg n9]
    by_cases h2 : hg h 12 k = p1
    · rw [if_pos (by rw [← l1]; exact h2), if_pos n9]
      have w : tkW h k p1 p2 p3 = (if 0 ≤ p3 then (if 0 ≤ p2 ∧ p2 ≤ hg h 13 k then (if hg h 13 k - p3 < p2 then 3 else 0) else 3) else 4) := by unfold tkW; rw [if_neg n1, if_pos h2]
      by_cases h3 : 0 ≤ p3
      · rw [if_pos h3] at w ⊢
        by_cases h4 : p2 < 0
        · rw [if_neg (fun z => absurd h4 (i_nlt.mpr z.1))] at w
          rw [if_pos h4, w, if_neg (by decide)]
        · rw [if_neg h4]
          by_cases h5 : nI L < p2
          · rw [if_neg (fun z => absurd h5 (i_nlt.mpr (by rw [← e13]; exact z.2)))] at w
            rw [if_pos h5, w, if_neg (by decide)]
          · rw [if_pos ⟨i_nlt.mp h4, by rw [e13]; exact i_nlt.mp h5⟩, e13] at w
            rw [if_neg h5]
            have iff : (p3 ≤ nI L - p2) ↔ ¬ (nI L - p3 < p2) := by
              obtain ⟨b, hb, rfl⟩ := nI_of (i_nlt.mpr h3)
              obtain ⟨a, ha, rfl⟩ := nI_of h4
              have t1 := nI_toInt (n := L) (by omega)
              have t2 := nI_toInt hb
              have t3 := nI_toInt ha
              rw [fa_lt, fa_le, fb_subI (by omega) (by omega), fb_subI (by omega) (by omega)]
              omega
            by_cases h6 : nI L - p3 < p2
            · rw [if_pos h6] at w
              rw [if_neg (fun z => iff.mp z h6), w, if_neg (by decide)]
            · rw [if_neg h6] at w
              rw [if_pos (iff.mpr h6), w, if_pos rfl]
      · rw [if_neg h3] at w ⊢
        rw [w, if_neg (by decide)]
    · have w : tkW h k p1 p2 p3 = 2 := by unfold tkW; rw [if_neg n1, if_neg h2]
      rw [if_neg (by rw [← l1]; exact h2), w, if_neg (by decide)]
theorem InvH2_w {h h' : H2} (iv : InvH2 h) (h1 : ∀ a j, a = 12 ∨ a = 13 ∨ a = 87 ∨ a = 88 ∨ a = 89 ∨ (8 ≤ a ∧ a < 12) → hg h' a j = hg h a j) : InvH2 h' := by
  intro k hk
  obtain ⟨hl, hn, hr⟩ := iv k hk
  rw [h1 12 k (by omega), h1 87 k (by omega), h1 13 k (by omega), h1 88 k (by omega)]
  refine ⟨hl, hn, fun j hj => ?_⟩
  rw [h1 (8 + k) j (by omega), h1 89 _ (by omega)]
  exact hr j hj
theorem InvH_w {h h' : H2} (iv : InvH h) (hf : hg h' 6 4 = hg h' 86 0) (h1 : ∀ a j, a = 12 ∨ a = 13 ∨ a = 87 ∨ a = 88 ∨ a = 89 ∨ (8 ≤ a ∧ a < 12) → hg h' a j = hg h a j) : InvH h' := ⟨hf, InvH2_w iv.2 h1⟩
theorem tkW_r {h h' : H2} {k : Nat} (h1 : hg h' 12 k = hg h 12 k) (h2 : hg h' 13 k = hg h 13 k) (p1 p2 p3 : Int32) : tkW h' k p1 p2 p3 = tkW h k p1 p2 p3 := by
  unfold tkW
  rw [h1, h2]
theorem InvH_f {h : H2} (iv : InvH h) (x : Int32) : InvH (sI (sI h 6 4 x) 86 0 x) := by
  apply InvH_w iv
  · simp [hg_sI]
  · intro a j ha
    rw [hg_ne _ (by omega), hg_ne _ (by omega)]
theorem Wr_f {s : List Nat} {h h' : H2} (w : Wr s h h') (x : Int32) (hs : 1 ∈ s) : Wr s h (sI (sI h' 6 4 x) 86 0 x) := Wr_sI (Wr_sI w hs) hs
theorem c_lose (X : XS) (h : H2) (iv : InvH h) (p0 : Int32) : EC X 152 [.ref 5, .int p0] h (fun v1 h1 => EC X 255 [.ref 86, .int p0] h1 (fun v2 h2 => v1 = v2 ∧ InvH h2 ∧ Wr [0, 1] h h2)) := by
  simp only [g152, g255, cI, e77, e170, rI_i, b2i_0]
  by_cases hp : 0 ≤ p0 ∧ p0 ≤ 3
  · obtain ⟨k, hk, rfl⟩ := sh4 hp
    have hkk : (nI k).toNatClampNeg = k := nI_clamp (by omega)
    obtain ⟨hl, ⟨L, hL, e13, e88⟩, hr⟩ := iv.2 k hk
    have n1 : ¬ (1 : Int32) = 0 := by decide
    have f1 : ∀ x, hg (sI h 12 k x) 87 k = hg h 87 k := fun x => hg_ne h (by decide)
    simp only [hp, and_self, not_true, not_false_iff, if_false, if_true, g81, hkk, bI k 4 hk (by omega), n1, rI_i, f1]
    have fin : InvH (sI (sI h 12 k (-1)) 87 k (-9)) ∧ Wr [0, 1] h (sI (sI h 12 k (-1)) 87 k (-9)) := by
      refine ⟨⟨?_, ?_⟩, ?_⟩
      · simp [hg_sI, iv.1]
      · intro j hj
        have hj' := iv.2 j hj
        by_cases e : j = k
        · subst e
          refine ⟨Or.inl ?_, ⟨L, hL, ?_, ?_⟩, ?_⟩
          · simp [hg_sI]
          · simp [hg_sI, e13]
          · simp [hg_sI, e88]
          · intro i hi
            rw [hg_ne _ (by omega), hg_ne _ (by omega), hg_ne _ (by omega), hg_ne _ (by omega)]
            exact hr i hi
        · obtain ⟨hl', ⟨L', hL', e13', e88'⟩, hr'⟩ := hj'
          refine ⟨?_, ⟨L', hL', ?_, ?_⟩, ?_⟩
          · simpa [hg_sI, e] using hl'
          · simp [hg_sI, e13']
          · simp [hg_sI, e88']
          · intro i hi
            rw [hg_ne _ (by omega), hg_ne _ (by omega), hg_ne _ (by omega), hg_ne _ (by omega)]
            exact hr' i hi
      · exact Wr_sI (Wr_sI (Wr_refl _ _) (show (1 : Nat) ∈ _ by decide)) (show (1 : Nat) ∈ _ by decide)
    rcases hl with ⟨l1, l2⟩ | ⟨l1, l2, l3⟩
    · simp only [l1, l2, if_true, not_true, if_false]
      exact ⟨trivial, fin⟩
    · have m1 : ¬ hg h 12 k = -1 := fun z => by rw [z] at l2; exact absurd l2 (by decide)
      have n9 : ¬ hg h 87 k = -9 := fun z => by rw [← l1] at z; rw [z] at l2; exact absurd l2 (by decide)
      simp only [m1, n9, not_false_iff, if_true, if_false]
      exact ⟨trivial, fin⟩
  · simp only [hp, not_true, not_false_iff, if_true, if_false]
    exact ⟨trivial, iv, Wr_refl _ _⟩
theorem c_fault (X : XS) (h : H2) (iv : InvH h) : EC X 159 [.ref 5] h (fun v1 h1 => EC X 264 [.ref 86] h1 (fun v2 h2 => v1 = v2 ∧ InvH h2 ∧ Wr [0, 1] h h2)) := by
  simp only [g159, g264, iv.1]
  exact ⟨trivial, iv, Wr_refl _ _⟩
theorem c60 {k j : Nat} (hk : k < 4) (hj : j < 60) : (60 : Int32) * nI k + nI j = nI (60 * k + j) ∧ (nI (60 * k + j)).toNatClampNeg = 60 * k + j ∧ ¬ (nI (60 * k + j) < 0 ∨ 240 ≤ 60 * k + j) := by
  refine ⟨?_, nI_clamp (by omega), bI _ 240 (by omega) (by omega)⟩
  have e : (60 : Int32) = nI 60 := by decide
  rw [e, pk_mul, nI_add]
theorem e254 (X : XS) (h : H2) (Q : Option Value → H2 → Prop) (k : Nat) (hk : k < 4) (u v : Int32) : E X 254 57 [some (.ref 86), some (.int (nI k)), some (.int u), some (.int v), some (.int 0)] [] h Q ↔ Q (some (.int 1)) (sF h 89 (60 * k) 60 0) := by
  have e60 : (60 : Int32) = nI 60 := by decide
  have key : ∀ m j, j + m = 60 → (E X 254 57 [some (.ref 86), some (.int (nI k)), some (.int u), some (.int v), some (.int (nI j))] [] (sF h 89 (60 * k) j 0) Q ↔ Q (some (.int 1)) (sF h 89 (60 * k) 60 0)) := by
    intro m
    induction m with
    | zero =>
      intro j hj
      have : j = 60 := by omega
      subst this
      rw [g254_57, if_pos (by rw [e60]; exact nI_le (Nat.le_refl _) (by omega))]
    | succ m ih =>
      intro j hj
      obtain ⟨a1, a2, a3⟩ := c60 (j := j) hk (by omega)
      rw [← ih (j + 1) (by omega), g254_57, if_neg (by rw [e60]; exact nI_ge (by omega) (by omega)), a1, a2, if_neg a3, nI_1, sF_succ]
  have := key 60 0 (by omega)
  rw [sF_0] at this
  exact this
theorem c_sheet (X : XS) (h : H2) (iv : InvH h) (p0 p1 p2 : Int32) : EC X 151 [.ref 5, .int p0, .int p1, .int p2] h (fun v1 h1 => EC X 254 [.ref 86, .int p0, .int p1, .int p2] h1 (fun v2 h2 => v1 = v2 ∧ InvH h2 ∧ Wr [0, 1] h h2)) := by
  simp only [g151, g80, cI, e77, e78, rI_i, b2i_0]
  by_cases hp : 0 ≤ p0 ∧ p0 ≤ 3
  · by_cases hq : 0 ≤ p1 ∧ p1 ≤ 2
    · by_cases h6 : p2 ≤ 60
      · by_cases h7 : 0 ≤ p2
        · obtain ⟨k, hk, rfl⟩ := sh4 hp
          have hkk : (nI k).toNatClampNeg = k := nI_clamp (by omega)
          have e60 : (60 : Int32) = nI 61 - 1 := by decide
          obtain ⟨n, hn, rfl⟩ := (inR_le (v := p2) (show 61 < 2 ^ 31 by omega)).mp ⟨h7, by rw [← e60]; exact h6⟩
          simp only [hp, hq, h6, h7, and_self, not_true, not_false_iff, if_false, if_true, hkk, bI k 4 hk (by omega), rc7 hk, oel_s', cV, e270 X _ _ (8 + k) 60 (by omega) (by omega) (shS X.1 hk) (by omega), rV_n, rI_i]
          simp only [g254, cI, e170, e171, rI_i, b2i_0, hp, hq, h6, h7, and_self, not_true, not_false_iff, if_false, if_true, hkk, bI k 4 hk (by omega), e254 X _ _ k hk]
          refine ⟨trivial, ⟨?_, ?_⟩, ?_⟩
          · simp [hg_sI, hg_sF]
          · intro j hj
            obtain ⟨hl', ⟨L', hL', e13', e88'⟩, hr'⟩ := iv.2 j hj
            have rd : ∀ i, i < 60 → j ≠ k → hg (sF (sI (sI (sI (sF (sI (sI (sI h 6 4 0) 12 k p1) 13 k (nI n)) (8 + k) 0 60 0) 86 0 0) 87 k p1) 88 k (nI n)) 89 (60 * k) 60 0) (8 + j) i = hg h (8 + j) i := by
              intro i hi hjk
              rw [hg_sFn _ (by omega), hg_ne _ (by omega), hg_ne _ (by omega), hg_ne _ (by omega), hg_sFn _ (by omega), hg_ne _ (by omega), hg_ne _ (by omega), hg_ne _ (by omega)]
            by_cases e : j = k
            · subst e
              refine ⟨Or.inr ?_, ⟨n, by omega, ?_, ?_⟩, ?_⟩
              · have q : hg (sF (sI (sI (sI (sF (sI (sI (sI h 6 4 0) 12 j p1) 13 j (nI n)) (8 + j) 0 60 0) 86 0 0) 87 j p1) 88 j (nI n)) 89 (60 * j) 60 0) 12 j = p1 := by
                  rw [hg_sFn _ (by omega), hg_ne _ (by omega), hg_ne _ (by omega), hg_ne _ (by omega), hg_sFn _ (by omega), hg_ne _ (by omega), hg_eq]
                have q2 : hg (sF (sI (sI (sI (sF (sI (sI (sI h 6 4 0) 12 j p1) 13 j (nI n)) (8 + j) 0 60 0) 86 0 0) 87 j p1) 88 j (nI n)) 89 (60 * j) 60 0) 87 j = p1 := by
                  rw [hg_sFn _ (by omega), hg_ne _ (by omega), hg_eq]
                rw [q, q2]
                exact ⟨rfl, hq⟩
              · rw [hg_sFn _ (by omega), hg_ne _ (by omega), hg_ne _ (by omega), hg_ne _ (by omega), hg_sFn _ (by omega), hg_eq]
              · rw [hg_sFn _ (by omega), hg_eq]
              · intro i hi
                rw [hg_sFn _ (show 8 + j ≠ 89 by omega), hg_ne _ (show 8 + j ≠ 88 by omega), hg_ne _ (show 8 + j ≠ 87 by omega), hg_ne _ (show 8 + j ≠ 86 by omega), hg_sF _ (8 + j), if_pos ⟨rfl, by omega, by omega⟩, hg_sF _ 89, if_pos ⟨rfl, by omega, by omega⟩]
            · refine ⟨?_, ⟨L', hL', ?_, ?_⟩, ?_⟩
              · rw [hg_sFn _ (by omega), hg_ne _ (by omega), hg_ne _ (by omega), hg_ne _ (by omega), hg_sFn _ (by omega), hg_ne _ (by omega), hg_nj _ e, hg_ne _ (by omega), hg_sFn _ (by omega), hg_ne _ (by omega), hg_nj _ e, hg_ne _ (by omega), hg_sFn _ (by omega), hg_ne _ (by omega), hg_ne _ (by omega), hg_ne _ (by omega)]
                exact hl'
              · rw [hg_sFn _ (by omega), hg_ne _ (by omega), hg_ne _ (by omega), hg_ne _ (by omega), hg_sFn _ (by omega), hg_nj _ e, hg_ne _ (by omega), hg_ne _ (by omega), e13']
              · rw [hg_sFn _ (by omega), hg_nj _ e, hg_ne _ (by omega), hg_ne _ (by omega), hg_sFn _ (by omega), hg_ne _ (by omega), hg_ne _ (by omega), hg_ne _ (by omega), e88']
              · intro i hi
                rw [rd i hi e, hg_sF _ 89, if_neg (by omega), hg_ne _ (by omega), hg_ne _ (by omega), hg_ne _ (by omega), hg_sFn _ (by omega), hg_ne _ (by omega), hg_ne _ (by omega), hg_ne _ (by omega)]
                exact hr' i hi
          · have m1 : (1 : Nat) ∈ [0, 1] := by decide
            exact Wr_sF (Wr_sI (Wr_sI (Wr_sI (Wr_sF (Wr_sI (Wr_sI (Wr_sI (Wr_refl _ _) m1) m1) m1) (fun j => by rw [comS hk]; exact m1)) m1) m1) m1) (fun j => m1)
        · simp only [hp, hq, h6, h7, and_self, not_true, not_false_iff, if_false, if_true, g79, g254, cI, e170, e171, rI_i, b2i_0, g166, sI_sI]
          refine ⟨trivial, ?_, ?_⟩
          · have : sI (sI h 6 4 4) 86 0 4 = sI (sI h 6 4 4) 86 0 4 := rfl
            exact InvH_f iv 4
          · exact Wr_f (Wr_refl _ _) 4 (by decide)
      · simp only [hp, hq, h6, and_self, not_true, not_false_iff, if_false, if_true, g254, cI, e170, e171, rI_i, b2i_0]
        exact ⟨trivial, InvH_f iv 0, Wr_f (Wr_refl _ _) 0 (by decide)⟩
    · simp only [hp, hq, and_self, not_true, not_false_iff, if_false, if_true, g254, cI, e170, e171, rI_i, b2i_0]
      exact ⟨trivial, InvH_f iv 0, Wr_f (Wr_refl _ _) 0 (by decide)⟩
  · simp only [hp, not_true, not_false_iff, if_false, if_true, g254, cI, e170, e171, rI_i, b2i_0]
    exact ⟨trivial, InvH_f iv 0, Wr_f (Wr_refl _ _) 0 (by decide)⟩
