/-! text -/
theorem lx_b4 {f : Nat → Int32} {n : Nat} : ∀ (i p : Nat) (s x : Int32), bt s 4 = false → (lx f n i p s).2 = some x → bt x 4 = false := by
  intro i
  induction i with
  | zero =>
    intro p s x hs h
    unfold lx at h
    by_cases e : p = n
    · rw [if_pos e] at h; cases h; exact hs
    · rw [if_neg e] at h; cases h
  | succ i ih =>
    intro p s x hs h
    unfold lx at h
    by_cases e : p = n
    · rw [if_pos e] at h; cases h; exact hs
    · rw [if_neg e] at h
      cases ho : on1 4 4 (cdx f n p) with
      | none => rw [ho] at h; cases h
      | some c =>
        have l4 := on1_lt ho
        rw [ho] at h
        dsimp only at h
        by_cases b : bt s c = true
        · rw [if_pos b] at h; cases h
        · rw [if_neg b] at h
          refine ih _ _ x ?_ h
          rw [b_or, hs, bt_bit (by omega), decide_eq_false (by omega)]
          rfl
theorem prs_b4 {f : Nat → Int32} {n q : Nat} {V : Nat → Int32} (h : prs f n = (q, some V)) : bt (V 5) 4 = false := by
  unfold prs at h
  cases hv : on1 1 4 (cdx f n 0) with
  | none => rw [hv] at h; cases h
  | some v =>
    rw [hv] at h
    dsimp only at h
    cases hk : on1 2 5 (cdx f n 1) with
    | none => rw [hk] at h; cases h
    | some k =>
      rw [hk] at h
      dsimp only at h
      generalize st2 f n 2 = P2 at h
      obtain ⟨q2, o2⟩ := P2
      cases o2 with
      | none => cases h
      | some ab =>
        dsimp only at h
        generalize st3 f n q2 = P3 at h
        obtain ⟨q3, o3⟩ := P3
        cases o3 with
        | none => cases h
        | some ft =>
          obtain ⟨fr, t⟩ := ft
          dsimp only at h
          have key : ∀ x, (st4 f n q3).2 = some x → bt x 4 = false := by
            intro x hx
            unfold st4 at hx
            by_cases e : q3 = n
            · rw [if_pos e] at hx; cases hx; exact b_0 4
            · rw [if_neg e] at hx
              by_cases c : cdx f n q3 = 33
              · rw [if_pos c] at hx
                cases ho : on1 4 4 (cdx f n (q3 + 1)) with
                | none => rw [ho] at hx; cases hx
                | some c =>
                  have l4 := on1_lt ho
                  rw [ho] at hx
                  refine lx_b4 _ _ _ x ?_ hx
                  rw [b_or, b_0, bt_bit (by omega), decide_eq_false (by omega)]
                  rfl
              · rw [if_neg c] at hx; cases hx
          generalize st4 f n q3 = P4 at h key
          obtain ⟨q4, o4⟩ := P4
          cases o4 with
          | none => cases h
          | some x =>
            dsimp only at h
            cases h
            exact key x rfl
theorem lx_le {f : Nat → Int32} {n : Nat} : ∀ (i p : Nat) (s : Int32), p ≤ n → (lx f n i p s).1 ≤ n := by
  intro i
  induction i with
  | zero => intro p s hp; exact hp
  | succ i ih =>
    intro p s hp
    unfold lx
    by_cases e : p = n
    · rw [if_pos e]; exact hp
    · rw [if_neg e]
      cases ho : on1 4 4 (cdx f n p) with
      | none => exact hp
      | some c =>
        dsimp only
        by_cases b : bt s c = true
        · rw [if_pos b]; exact hp
        · rw [if_neg b]; exact ih _ _ (by omega)
theorem st4_le {f : Nat → Int32} {n p : Nat} (hp : p ≤ n) : (st4 f n p).1 ≤ n := by
  unfold st4
  by_cases e : p = n
  · rw [if_pos e]; exact hp
  · rw [if_neg e]
    by_cases c : cdx f n p = 33
    · rw [if_pos c]
      have lt := cdx_n (by decide) c
      cases ho : on1 4 4 (cdx f n (p + 1)) with
      | none => exact lt
      | some c =>
        have l2 := on1_n tb4 ho
        exact lx_le _ _ _ (by omega)
    · rw [if_neg c]; exact hp
theorem prs_le {f : Nat → Int32} {n : Nat} : (prs f n).1 ≤ n := by
  unfold prs
  cases hv : on1 1 4 (cdx f n 0) with
  | none => exact Nat.zero_le _
  | some v =>
    have l1 := on1_n tb1 hv
    dsimp only
    cases hk : on1 2 5 (cdx f n 1) with
    | none => exact l1
    | some k =>
      have l2 := on1_n tb2 hk
      dsimp only
      have l3 := st2_le (f := f) (n := n) (p := 2) (by omega)
      generalize st2 f n 2 = P2 at *
      obtain ⟨q2, o2⟩ := P2
      cases o2 with
      | none => exact l3
      | some ab =>
        dsimp only at l3 ⊢
        have l4 := st3_le (f := f) (n := n) (p := q2) l3
        generalize st3 f n q2 = P3 at *
        obtain ⟨q3, o3⟩ := P3
        cases o3 with
        | none => exact l4
        | some ft =>
          obtain ⟨fr, t⟩ := ft
          dsimp only at l4 ⊢
          have l5 := st4_le (f := f) (n := n) (p := q3) l4
          generalize st4 f n q3 = P4 at *
          obtain ⟨q4, o4⟩ := P4
          cases o4 with
          | none => exact l5
          | some x => exact l5
def InvHL (h : H2) : Prop := InvH h ∧ InvL h
theorem InvL_w {h h' : H2} {c : Nat} {ad : Nat → Nat} (ok : LsOk h c ad) (r1 : hg h' 17 1 = hg h 17 1) (r2 : hg h' 86 5 = hg h 86 5) (r3 : ∀ l, l < c → h'.2.2.2 l = h.2.2.2 l) (r4 : ∀ a i, 137 ≤ a → a < h.1 → hg h' a i = hg h a i) (r5 : ∀ b j, 90 ≤ b → b < 97 → j < c → hg h' b j = hg h b j) (r6 : h.1 ≤ h'.1) (r7 : ∀ a i, h'.1 ≤ a → hg h' a i = 0) : LsOk h' c ad := by
  obtain ⟨hc, c1, c2, ls, inc, sz, fz⟩ := ok
  refine ⟨hc, by rw [r1, c1], by rw [r2, c2], ?_, inc, by omega, fun a ha i => r7 a i ha⟩
  intro l hl
  obtain ⟨l1, la1, la2, la3, la4⟩ := ls l hl
  refine ⟨by rw [r3 l hl, l1], la1, by omega, ?_, ?_⟩
  · intro i hi
    rw [r4 _ _ la1 la2, r5 _ _ (by omega) (by omega) hl]
    exact la3 i hi
  · rw [r5 _ _ (by omega) (by omega) hl]
    exact la4
theorem InvHL_f {h : H2} (iv : InvHL h) (x : Int32) : InvHL (sI (sI h 6 4 x) 86 0 x) := by
  obtain ⟨ivH, c, ad, ok⟩ := iv
  have sz := ok.2.2.2.2.2.1
  refine ⟨InvH_f ivH x, c, ad, InvL_w ok ?_ ?_ ?_ ?_ ?_ ?_ ?_⟩
  · rw [hg_ne _ (by decide), hg_ne _ (by decide)]
  · rw [hg_nj _ (by decide), hg_ne _ (by decide)]
  · intro l _; rfl
  · intro a i h1 h2
    rw [hg_ne _ (by omega), hg_ne _ (by omega)]
  · intro b j h1 h2 h3
    rw [hg_ne _ (by omega), hg_ne _ (by omega)]
  · exact Nat.le_refl _
  · intro a i ha
    have ha' : h.1 ≤ a := ha
    rw [hg_ne _ (by omega), hg_ne _ (by omega)]
    exact ok.2.2.2.2.2.2 a ha' i
theorem text_A (X : XS) (h : H2) (iv : InvHL h) (p0 p1 p2 p3 : Int32) (hp : ¬ (0 ≤ p0 ∧ p0 ≤ 3)) : EC X 108 [.ref 5, .int p0, .int p1, .int p2, .int p3] h (fun v1 h1 => EC X 180 [.ref 86, .int p0, .int p1, .int p2, .int p3] h1 (fun v2 h2 => v1 = v2 ∧ InvHL h2 ∧ Wr [0, 1, 2] h h2 ∧ h2.1 ≤ h.1 + 1)) := by
  rw [g108]
  show EC X 84 _ h _
  rw [e84_A X h _ p0 p1 1 p2 p3 hp, rI_i]
  dsimp only
  rw [if_neg n_1]
  rw [g180]
  show EC X 170 _ _ _
  rw [e170, rI_i, b2i_f hp]
  dsimp only
  rw [if_neg (fun z => z rfl)]
  exact ⟨rfl, InvHL_f iv 0, Wr_f (Wr_refl _ _) 0 (by decide), Nat.le_succ _⟩
theorem text_B (X : XS) (h : H2) (iv : InvHL h) (p0 p1 p2 p3 : Int32) (hp : 0 ≤ p0 ∧ p0 ≤ 3) (hq : ¬ (0 ≤ p1 ∧ p1 ≤ 2)) : EC X 108 [.ref 5, .int p0, .int p1, .int p2, .int p3] h (fun v1 h1 => EC X 180 [.ref 86, .int p0, .int p1, .int p2, .int p3] h1 (fun v2 h2 => v1 = v2 ∧ InvHL h2 ∧ Wr [0, 1, 2] h h2 ∧ h2.1 ≤ h.1 + 1)) := by
  rw [g108]
  show EC X 84 _ h _
  rw [e84_B X h _ p0 p1 1 p2 p3 hp (fun z => hq z.1), rI_i]
  dsimp only
  rw [if_neg n_2, g180]
  show EC X 170 _ _ _
  rw [e170, rI_i, b2i_t hp]
  dsimp only
  rw [if_pos n1_0]
  show EC X 171 _ _ _
  rw [e171, rI_i, b2i_f hq]
  dsimp only
  rw [if_neg (fun z => z rfl)]
  exact ⟨rfl, InvHL_f iv 0, Wr_f (Wr_refl _ _) 0 (by decide), Nat.le_succ _⟩
theorem p03 {k : Nat} (hk : k < 4) : 0 ≤ nI k ∧ nI k ≤ 3 := ⟨nI_pos' (by omega), nI_le (b := 3) (by omega) (by omega)⟩
theorem text_F (X : XS) (h : H2) (iv : InvHL h) (k L : Nat) (hk : k < 4) (hL : L ≤ 60) (e13 : hg h 13 k = nI L) (p1 p2 p3 : Int32) (hq : 0 ≤ p1 ∧ p1 ≤ 2) (w : ¬ tkW h k p1 p2 p3 = 0) : EC X 108 [.ref 5, .int (nI k), .int p1, .int p2, .int p3] h (fun v1 h1 => EC X 180 [.ref 86, .int (nI k), .int p1, .int p2, .int p3] h1 (fun v2 h2 => v1 = v2 ∧ InvHL h2 ∧ Wr [0, 1, 2] h h2 ∧ h2.1 ≤ h.1 + 1)) := by
  have hp := p03 hk
  rw [g108]
  show EC X 84 _ h _
  have nz := tkW_nz h k p1 p2 p3
  rw [e84_C X h _ k L hk hL e13 p1 1 p2 p3 hq n1_0, if_neg w, rI_i]
  dsimp only
  rw [if_neg nz]
  have i2 : InvH2 (sI (sI h 6 4 (tkW h k p1 p2 p3)) 86 0 0) := InvH2_w iv.1.2 (fun b j hb => by rw [hg_ne _ (by omega), hg_ne _ (by omega)])
  have w2 : tkW (sI (sI h 6 4 (tkW h k p1 p2 p3)) 86 0 0) k p1 p2 p3 = tkW h k p1 p2 p3 := tkW_r (by rw [hg_ne _ (by decide), hg_ne _ (by decide)]) (by rw [hg_ne _ (by decide), hg_ne _ (by decide)]) _ _ _
  rw [g180]
  show EC X 170 _ _ _
  rw [e170, rI_i, b2i_t hp]
  dsimp only
  rw [if_pos n1_0]
  show EC X 171 _ _ _
  rw [e171, rI_i, b2i_t hq]
  dsimp only
  rw [if_pos n1_0]
  show EC X 172 _ _ _
  rw [e172 X _ _ i2 k hk p1 _ _ hq, w2, if_neg w, rI_i]
  dsimp only
  rw [if_neg nz, sI_sI]
  exact ⟨rfl, InvHL_f iv _, Wr_f (Wr_refl _ _) _ (by decide), Nat.le_succ _⟩
theorem text_M (X : XS) (h g : H2) (R : Option Value → H2 → Prop) (iv : InvH2 h) (k a n : Nat) (hk : k < 4) (han : a + n ≤ 60) (p1 : Int32) (hq : 0 ≤ p1 ∧ p1 ≤ 2) (w : tkW h k p1 (nI a) (nI n) = 0) (hgR : ∀ b j, b = 12 ∨ b = 13 ∨ b = 87 ∨ b = 88 ∨ b = 89 ∨ (8 ≤ b ∧ b < 12) → hg g b j = hg h b j) :
    EC X 180 [.ref 86, .int (nI k), .int p1, .int (nI a), .int (nI n)] g R ↔ EC X 178 [.ref 86, .int (nI (60 * k + a)), .int (nI n)] (sI g 86 0 0) (fun v h7 => rI v False (fun x8 => if x8 = (-9 : Int32) then if ¬ (hg h7 86 5) = (24 : Int32) then cV X 179 [.ref 86, .int (24 : Int32), .int (hg h7 86 5)] h7 (fun h9 => R (some (.int (((hg h9 86 5) + (1 : Int32)) - (1 : Int32)))) (sI h9 86 5 ((hg h9 86 5) + (1 : Int32)))) else R (some (.int (-4 : Int32))) h7 else R (some (.int ((-100 : Int32) - x8))) h7)) := by
  have hp := p03 hk
  have e60 : (60 : Int32) = nI 60 := by decide
  have i2 : InvH2 (sI g 86 0 0) := InvH2_w iv (fun b j hb => by rw [hg_ne _ (by omega), hgR b j hb])
  have w2 : tkW (sI g 86 0 0) k p1 (nI a) (nI n) = 0 := by
    rw [tkW_r (h := h) (by rw [hg_ne _ (by decide), hgR _ _ (by omega)]) (by rw [hg_ne _ (by decide), hgR _ _ (by omega)]), w]
  rw [g180]
  show EC X 170 _ _ _ ↔ _
  rw [e170, rI_i, b2i_t hp]
  dsimp only
  rw [if_pos n1_0]
  show EC X 171 _ _ _ ↔ _
  rw [e171, rI_i, b2i_t hq]
  dsimp only
  rw [if_pos n1_0]
  show EC X 172 _ _ _ ↔ _
  rw [e172 X _ _ i2 k hk p1 _ _ hq, w2, if_pos rfl, rI_i]
  dsimp only
  rw [if_pos rfl, e60, pk_mul, nI_add]
theorem Wr_mH {s : List Nat} {h h' : H2} {a p : Nat} {w : Int32} {V : Nat → Int32} (wr : Wr s h h') (h0 : 0 ∈ s) (h2 : 2 ∈ s) : Wr s h (mH h' a p w V) := by
  refine ⟨fun b j q => ?_, fun q b j => wr.2.1 q b j, fun q => absurd h2 q⟩
  rw [hg_mH]
  by_cases e1 : b = 86 ∧ j = 13
  · obtain ⟨rfl, rfl⟩ := e1
    exact absurd h0 q
  · rw [if_neg e1]
    by_cases e2 : b = 86 ∧ j = 15
    · obtain ⟨rfl, rfl⟩ := e2
      exact absurd h0 q
    · rw [if_neg e2]
      by_cases e3 : (90 ≤ b ∧ b < 97) ∧ j = 24
      · exfalso
        have : b = 90 ∨ b = 91 ∨ b = 92 ∨ b = 93 ∨ b = 94 ∨ b = 95 ∨ b = 96 := by omega
        rcases this with rfl | rfl | rfl | rfl | rfl | rfl | rfl <;> exact q h2
      · rw [if_neg e3]
        exact wr.1 b j q
theorem Wr_hN {s : List Nat} {h h' : H2} {n : Nat} (wr : Wr s h h') (h2 : 2 ∈ s) : Wr s h (hN h' n) := ⟨fun b j q => wr.1 b j q, fun q b j => wr.2.1 q b j, fun q => absurd h2 q⟩
theorem Wr_dH {s : List Nat} {h h' : H2} {a p : Nat} {r : Nat → Int32} (wr : Wr s h h') (ha : 137 ≤ a) (h0 : 0 ∈ s) (h2 : 2 ∈ s) : Wr s h (dH h' a p r) := Wr_sR (Wr_sI wr h0) (fun j => by rw [com137 ha]; exact h2)
theorem Wr_sL {s : List Nat} {h h' : H2} {i v : Nat} (wr : Wr s h h') (h2 : 2 ∈ s) : Wr s h (sL h' i v) := ⟨fun b j q => wr.1 b j q, fun q b j => wr.2.1 q b j, fun q => absurd h2 q⟩
/-- the program's heap behind a reading -/
def rdG (h : H2) (k a n : Nat) : H2 := hN (sC (sI (sC (sI h 6 4 0) 14 (8 + k) a 0 n) 15 1 (nI n)) 16 14 0 0 n) 1
theorem rdG_1 (h : H2) (k a n : Nat) : (rdG h k a n).1 = h.1 + 1 := rfl
theorem rdG_L (h : H2) (k a n : Nat) : (rdG h k a n).2.2.2 = h.2.2.2 := rfl
theorem rdG_o (h : H2) (k a n b j : Nat) (h6 : b ≠ 6) (h14 : b ≠ 14) (h15 : b ≠ 15) (h16 : b ≠ 16) : hg (rdG h k a n) b j = hg h b j := by
  show hg (sC (sI (sC (sI h 6 4 0) 14 (8 + k) a 0 n) 15 1 (nI n)) 16 14 0 0 n) b j = _
  rw [hg_sCn _ h16, hg_ne _ h15, hg_sCn _ h14, hg_ne _ h6]
theorem rdG_f (h : H2) (k a n : Nat) : hg (rdG h k a n) 6 4 = 0 := by
  show hg (sC (sI (sC (sI h 6 4 0) 14 (8 + k) a 0 n) 15 1 (nI n)) 16 14 0 0 n) 6 4 = _
  rw [hg_sCn _ (by decide), hg_ne _ (by decide), hg_sCn _ (by decide), hg_eq]
theorem Wr_rdG (h : H2) (k a n : Nat) {s : List Nat} (h0 : 0 ∈ s) (h1 : 1 ∈ s) (h2 : 2 ∈ s) : Wr s h (rdG h k a n) := Wr_hN (Wr_sC (Wr_sI (Wr_sC (Wr_sI (Wr_refl _ _) h1) (fun _ => h0)) h0) (fun _ => h0)) h2
/-- the program's part of reading, behind a good taking -/
theorem read_D (X : XS) (h : H2) (Q : Option Value → H2 → Prop) (iv : InvHL h) (k a n : Nat) (hk : k < 4) (han : a + n ≤ 60)
    (hs : ∀ q V, prs (fun j => hg h 89 (60 * k + a + j)) n = (q, some V) → ∀ r', (∀ i, i < 7 → r' i = V i) → Q (some (.ref h.1)) (dH (rdG h k a n) h.1 q r')) (hn0 : ∀ q, prs (fun j => hg h 89 (60 * k + a + j)) n = (q, none) → ∀ r', Q (some .null) (dH (rdG h k a n) h.1 q r')) :
    EC X 67 [.ref 15, .ref 14, .int (nI n)] (sC (sI h 6 4 0) 14 (8 + k) a 0 n) Q := by
  obtain ⟨ivH, c, ad, hc, c1, c2, ls, inc, sz, fz⟩ := iv
  obtain ⟨-, -, hr⟩ := ivH.2 k hk
  refine e67 X _ Q n (by omega) sz ?_ (fun j => hg h 89 (60 * k + a + j)) ?_ (rdG h k a n) rfl hs hn0
  · intro i
    show hg (sC (sI h 6 4 0) 14 (8 + k) a 0 n) h.1 i = 0
    rw [hg_sCn _ (by omega), hg_ne _ (by omega)]
    exact fz _ (Nat.le_refl _) i
  · intro j hj
    rw [hg_sC, if_pos ⟨rfl, by omega, by omega⟩, hg_ne _ (by omega)]
    have := hr (a + j) (by omega)
    rw [← Nat.add_assoc] at this
    rw [← this]
    congr 1
theorem hL_out {h : H2} {c : Nat} {ad : Nat → Nat} (ivH : InvH h) (ok : LsOk h c ad) (k a n q s p : Nat) (r' : Nat → Int32) (w : Int32) (V' : Nat → Int32) (x : Int32) :
    InvHL (mH (sI (sI (dH (rdG h k a n) h.1 q r') 86 0 0) 86 14 x) s p w V') ∧ Wr [0, 1, 2] h (mH (sI (sI (dH (rdG h k a n) h.1 q r') 86 0 0) 86 14 x) s p w V') ∧ (mH (sI (sI (dH (rdG h k a n) h.1 q r') 86 0 0) 86 14 x) s p w V').1 ≤ h.1 + 1 := by
  have sz := ok.2.2.2.2.2.1
  have fz := ok.2.2.2.2.2.2
  have hc := ok.1
  have rd : ∀ b j, b ≠ 86 → ¬ ((90 ≤ b ∧ b < 97) ∧ j = 24) → b ≠ h.1 → b ≠ 15 → b ≠ 6 → b ≠ 14 → b ≠ 16 → hg (mH (sI (sI (dH (rdG h k a n) h.1 q r') 86 0 0) 86 14 x) s p w V') b j = hg h b j := by
    intro b j z1 z2 z3 z4 z5 z6 z7
    rw [mH_o _ _ _ _ _ _ _ (by omega) (by omega) z2, hg_ne _ z1, hg_ne _ z1, dH_o _ _ _ _ _ _ z3 (by omega), rdG_o _ _ _ _ _ _ z5 z6 z4 z7]
  have m1 : (1 : Nat) ∈ [0, 1, 2] := by decide
  have m0 : (0 : Nat) ∈ [0, 1, 2] := by decide
  have m2 : (2 : Nat) ∈ [0, 1, 2] := by decide
  refine ⟨⟨InvH_w ivH ?_ ?_, c, ad, InvL_w ok ?_ ?_ ?_ ?_ ?_ ?_ ?_⟩, ?_, Nat.le_refl _⟩
  · rw [mH_o _ _ _ _ _ _ _ (by omega) (by omega) (by omega), mH_o _ _ _ _ _ _ _ (by omega) (by omega) (by omega), hg_ne _ (by decide), hg_ne _ (by decide), dH_o _ _ _ _ _ _ (by omega) (by omega), rdG_f, hg_nj _ (by decide), hg_eq]
  · intro b j hb
    exact rd b j (by omega) (by omega) (by omega) (by omega) (by omega) (by omega) (by omega)
  · exact rd _ _ (by omega) (by omega) (by omega) (by omega) (by omega) (by omega) (by omega)
  · rw [mH_o _ _ _ _ _ _ _ (by omega) (by omega) (by omega), hg_nj _ (by decide), hg_nj _ (by decide), dH_o _ _ _ _ _ _ (by omega) (by omega), rdG_o _ _ _ _ _ _ (by decide) (by decide) (by decide) (by decide)]
  · intro l _; rfl
  · intro b i z1 z2
    exact rd _ _ (by omega) (by omega) (by omega) (by omega) (by omega) (by omega) (by omega)
  · intro b j z1 z2 z3
    exact rd _ _ (by omega) (by omega) (by omega) (by omega) (by omega) (by omega) (by omega)
  · exact Nat.le_succ _
  · intro b i z1
    have z1' : h.1 + 1 ≤ b := z1
    rw [rd _ _ (by omega) (by omega) (by omega) (by omega) (by omega) (by omega) (by omega)]
    exact fz b (by omega) i
  · exact Wr_mH (Wr_sI (Wr_sI (Wr_dH (Wr_rdG _ _ _ _ m0 m1 m2) sz m0 m2) m1) m0) m0 m2
