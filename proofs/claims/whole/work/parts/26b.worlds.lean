/-! worlds -/
theorem p2 {A : Nat} (hA : A ≤ 24) : (1 : Int32) <<< (nI A &&& 31) = nI (2 ^ A) := by
  have := pk_shlN (n := 1) (nI A &&& 31) A (s_l A (by omega)) (by rw [Nat.one_mul]; exact Nat.pow_lt_pow_right (by omega) (by omega))
  rw [Nat.one_mul] at this
  exact this
/-- truck t speaks against the set s of bribed ones -/
def bw (f g : Nat → Int32) (s : Int32) (t : Nat) : Bool := decide ((g t = 1 ∧ ¬ f t &&& (s ^^^ (-1)) = 0) ∨ (g t = 0 ∧ f t &&& (s ^^^ (-1)) = 0))
theorem i01 {x : Int32} (h0 : x = 0) (h1 : x = 1) : False := by rw [h0] at h1; exact absurd h1 (by decide)
theorem e53 (X : XS) (h : H2) (Q : Option Value → H2 → Prop) (T : Nat) (hT : T ≤ 12) (eT : hg h 34 8 = nI T) (s : Int32) :
    EC X 53 [.ref 34, .int s] h Q ↔ Q (some (.int (bz (!anyB (bw (hg h 61) (hg h 60) s) T)))) h := by
  have key : ∀ i k u, k + i = T → anyB (bw (hg h 61) (hg h 60) s) k = false → (E X 53 2 [some (.ref 34), some (.int s), some (.int (nI k)), u] [] h Q ↔ Q (some (.int (bz (!anyB (bw (hg h 61) (hg h 60) s) T)))) h) := by
    intro i
    induction i with
    | zero =>
      intro k u hk hf
      have : k = T := by omega
      subst this
      rw [g53_2u, eT, if_pos (nI_le (Nat.le_refl _) (by omega)), hf]
      exact Iff.rfl
    | succ i ih =>
      intro k u hk hf
      have hkk : (nI k).toNatClampNeg = k := nI_clamp (by omega)
      have n1 : ¬ (1 : Int32) = 0 := by decide
      have next : bw (hg h 61) (hg h 60) s k = false → ∀ u, (E X 53 2 [some (.ref 34), some (.int s), some (.int (nI (k + 1))), u] [] h Q ↔ Q (some (.int (bz (!anyB (bw (hg h 61) (hg h 60) s) T)))) h) := by
        intro z u
        refine ih (k + 1) u (by omega) ?_
        show (anyB _ k || bw _ _ s k) = false
        rw [hf, z]
        rfl
      have found : bw (hg h 61) (hg h 60) s k = true → (Q (some (.int 0)) h ↔ Q (some (.int (bz (!anyB (bw (hg h 61) (hg h 60) s) T)))) h) := by
        intro z
        rw [show anyB (bw (hg h 61) (hg h 60) s) T = true from anyB_iff.mpr ⟨k, by omega, z⟩]
        exact Iff.rfl
      rw [g53_2u, eT, if_neg (nI_ge (by omega) (by omega))]
      simp only [g53_28u, hkk, bI k 12 (show k < 12 by omega) (by omega), if_false, n1, if_true, nI_1]
      by_cases c1 : hg h 61 k &&& (s ^^^ (-1)) = 0
      · rw [if_neg (fun z => z c1)]
        by_cases c2 : hg h 60 k = 0
        · have c3 : ¬ hg h 60 k = 1 := fun z => i01 c2 z
          rw [if_pos c3, if_neg (fun z => z c2)]
          exact found (decide_eq_true (Or.inr ⟨c2, c1⟩))
        · have no : bw (hg h 61) (hg h 60) s k = false := by
            refine decide_eq_false ?_
            rintro (z | z)
            · exact z.2 c1
            · exact c2 z.1
          by_cases c3 : hg h 60 k = 1
          · rw [if_neg (fun z => z c3), if_pos c2]
            exact next no _
          · rw [if_pos c3, if_pos c2]
            exact next no _
      · rw [if_pos c1]
        by_cases c3 : hg h 60 k = 1
        · rw [if_neg (fun z => z c3)]
          exact found (decide_eq_true (Or.inl ⟨c3, c1⟩))
        · have no : bw (hg h 61) (hg h 60) s k = false := by
            refine decide_eq_false ?_
            rintro (z | z)
            · exact c3 z.1
            · exact c1 z.2
          rw [if_pos c3]
          by_cases c2 : hg h 60 k = 0
          · rw [if_neg (fun z => z c2)]
            exact next no _
          · rw [if_pos c2]
            exact next no _
  rw [g53]
  exact key T 0 _ (by omega) rfl
theorem e212 (X : XS) (h : H2) (Q : Option Value → H2 → Prop) (T : Nat) (hT : T ≤ 12) (eT : hg h 86 34 = nI T) (s : Int32) :
    EC X 212 [.ref 86, .int s] h Q ↔ Q (some (.int (bz (!anyB (bw (hg h 115) (hg h 112) s) T)))) h := by
  have key : ∀ i k u, k + i = T → anyB (bw (hg h 115) (hg h 112) s) k = false → (E X 212 2 [some (.ref 86), some (.int s), some (.int (nI k)), u] [] h Q ↔ Q (some (.int (bz (!anyB (bw (hg h 115) (hg h 112) s) T)))) h) := by
    intro i
    induction i with
    | zero =>
      intro k u hk hf
      have : k = T := by omega
      subst this
      rw [g212_2u, eT, if_pos (nI_le (Nat.le_refl _) (by omega)), hf]
      exact Iff.rfl
    | succ i ih =>
      intro k u hk hf
      have hkk : (nI k).toNatClampNeg = k := nI_clamp (by omega)
      have n1 : ¬ (1 : Int32) = 0 := by decide
      have next : bw (hg h 115) (hg h 112) s k = false → ∀ u, (E X 212 2 [some (.ref 86), some (.int s), some (.int (nI (k + 1))), u] [] h Q ↔ Q (some (.int (bz (!anyB (bw (hg h 115) (hg h 112) s) T)))) h) := by
        intro z u
        refine ih (k + 1) u (by omega) ?_
        show (anyB _ k || bw _ _ s k) = false
        rw [hf, z]
        rfl
      have found : bw (hg h 115) (hg h 112) s k = true → (Q (some (.int 0)) h ↔ Q (some (.int (bz (!anyB (bw (hg h 115) (hg h 112) s) T)))) h) := by
        intro z
        rw [show anyB (bw (hg h 115) (hg h 112) s) T = true from anyB_iff.mpr ⟨k, by omega, z⟩]
        exact Iff.rfl
      rw [g212_2u, eT, if_neg (nI_ge (by omega) (by omega))]
      simp only [g212_28u, hkk, bI k 12 (show k < 12 by omega) (by omega), if_false, n1, if_true, nI_1]
      by_cases c1 : hg h 115 k &&& (s ^^^ (-1)) = 0
      · rw [if_neg (fun z => z c1)]
        by_cases c2 : hg h 112 k = 0
        · have c3 : ¬ hg h 112 k = 1 := fun z => i01 c2 z
          rw [if_pos c3, if_neg (fun z => z c2)]
          exact found (decide_eq_true (Or.inr ⟨c2, c1⟩))
        · have no : bw (hg h 115) (hg h 112) s k = false := by
            refine decide_eq_false ?_
            rintro (z | z)
            · exact z.2 c1
            · exact c2 z.1
          by_cases c3 : hg h 112 k = 1
          · rw [if_neg (fun z => z c3), if_pos c2]
            exact next no _
          · rw [if_pos c3, if_pos c2]
            exact next no _
      · rw [if_pos c1]
        by_cases c3 : hg h 112 k = 1
        · rw [if_neg (fun z => z c3)]
          exact found (decide_eq_true (Or.inl ⟨c3, c1⟩))
        · have no : bw (hg h 115) (hg h 112) s k = false := by
            refine decide_eq_false ?_
            rintro (z | z)
            · exact c3 z.1
            · exact c1 z.2
          rw [if_pos c3]
          by_cases c2 : hg h 112 k = 0
          · rw [if_neg (fun z => z c2)]
            exact next no _
          · rw [if_pos c2]
            exact next no _
  rw [g212]
  exact key T 0 _ (by omega) rfl
def isW (f g : Nat → Int32) (T s : Nat) : Bool := !anyB (bw f g (nI s)) T
theorem bw_congr {f f' g g' : Nat → Int32} {T : Nat} (hf : ∀ t, t < T → f t = f' t) (hg' : ∀ t, t < T → g t = g' t) (s : Nat) : isW f g T s = isW f' g' T s := by
  unfold isW
  congr 1
  have : ∀ n, n ≤ T → anyB (bw f g (nI s)) n = anyB (bw f' g' (nI s)) n := by
    intro n
    induction n with
    | zero => intro _; rfl
    | succ n ih =>
      intro hn
      show (anyB _ n || bw f g (nI s) n) = (anyB _ n || bw f' g' (nI s) n)
      rw [ih (by omega)]
      unfold bw
      rw [hf n (by omega), hg' n (by omega)]
  exact this T (Nat.le_refl _)
def suB (w : Int32) (s : Nat) : Bool := decide (w &&& (nI s ^^^ (-1)) = 0)
theorem pw8 {A : Nat} (hA : A ≤ 8) : 2 ^ A ≤ 256 := Nat.pow_le_pow_right (n := 2) (by omega) hA
theorem e54 (X : XS) (h : H2) (Q : Option Value → H2 → Prop) (A T : Nat) (hA : A ≤ 8) (eA : hg h 34 7 = nI A) (hT : T ≤ 12) (eT : hg h 34 8 = nI T) (w : Int32) :
    EC X 54 [.ref 34, .int w] h Q ↔ Q (some (.int (nI (cnt (fun s => suB w s && isW (hg h 61) (hg h 60) T s) (2 ^ A))))) h := by
  have hp := pw8 hA
  have key : ∀ i k, k + i = 2 ^ A → (E X 54 4 [some (.ref 34), some (.int w), some (.int (nI (cnt (fun s => suB w s && isW (hg h 61) (hg h 60) T s) k))), some (.int (nI k))] [] h Q ↔ Q (some (.int (nI (cnt (fun s => suB w s && isW (hg h 61) (hg h 60) T s) (2 ^ A))))) h) := by
    intro i
    induction i with
    | zero =>
      intro k hk
      have : k = 2 ^ A := by omega
      rw [g54_4, eA, p2 (by omega), ← this, if_pos (nI_le (Nat.le_refl _) (by omega))]
    | succ i ih =>
      intro k hk
      rw [← ih (k + 1) (by omega), g54_4, eA, p2 (by omega), if_neg (nI_ge (by omega) (by omega))]
      simp only [cI, e53 X _ _ T hT eT, rI_i, nI_1, bz_0]
      have ee : cnt (fun s => suB w s && isW (hg h 61) (hg h 60) T s) (k + 1) = cnt (fun s => suB w s && isW (hg h 61) (hg h 60) T s) k + (if (suB w k && isW (hg h 61) (hg h 60) T k) = true then 1 else 0) := rfl
      rw [ee]
      by_cases c1 : w &&& (nI k ^^^ (-1)) = 0
      · rw [if_neg (fun z => z c1), show suB w k = true from decide_eq_true c1, Bool.true_and]
        by_cases c2 : (!anyB (bw (hg h 61) (hg h 60) (nI k)) T) = true
        · have c3 : isW (hg h 61) (hg h 60) T k = true := c2
          rw [if_neg (fun z => z c2), if_pos c3]
        · have c3 : ¬ isW (hg h 61) (hg h 60) T k = true := c2
          rw [if_pos c2, if_neg c3]
          rfl
      · rw [if_pos c1, show suB w k = false from decide_eq_false c1, Bool.false_and, if_neg (by decide)]
        rfl
  rw [g54]
  exact key (2 ^ A) 0 (by omega)
theorem suB_0 (s : Nat) : suB 0 s = true := decide_eq_true (bt_sub.mpr (fun i _ z => by rw [b_0] at z; cases z))
theorem e211 (X : XS) (h : H2) (Q : Option Value → H2 → Prop) (A T : Nat) (hA : A ≤ 8) (hT : T ≤ 12) (eA : hg h 86 31 = nI A) (eT : hg h 86 34 = nI T) (oa : ∀ a, a < A → AgOk h a) (ot : ∀ t, t < T → TrOk h t) :
    EC X 211 [.ref 86] h Q ↔ Q none (sR h 115 (fun j => if j < T then mtS h j A else hg h 115 j)) := by
  have key : ∀ i k, k + i = T → (E X 211 2 [some (.ref 86), some (.int (nI k))] [] (sR h 115 (fun j => if j < k then mtS h j A else hg h 115 j)) Q ↔ Q none (sR h 115 (fun j => if j < T then mtS h j A else hg h 115 j))) := by
    intro i
    induction i with
    | zero =>
      intro k hk
      have : k = T := by omega
      subst this
      rw [g211_2, hg_sRn _ (by decide), eT, if_pos (nI_le (Nat.le_refl _) (by omega))]
    | succ i ih =>
      intro k hk
      have hkk : (nI k).toNatClampNeg = k := nI_clamp (by omega)
      have rd : ∀ b j, b ≠ 115 → hg (sR h 115 (fun j => if j < k then mtS h j A else hg h 115 j)) b j = hg h b j := fun b j z => hg_sRn _ z
      have oa' : ∀ a, a < A → AgOk (sR h 115 (fun j => if j < k then mtS h j A else hg h 115 j)) a := by
        intro a ha
        obtain ⟨m, m1, m2, em, em', ra⟩ := oa a ha
        refine ⟨m, m1, m2, ?_, ?_, fun j hj => ?_⟩
        · rw [rd _ _ (by omega), em]
        · rw [rd _ _ (by omega), em']
        · rw [rd _ _ (by omega), rd _ _ (by omega)]
          exact ra j hj
      have ot' : TrOk (sR h 115 (fun j => if j < k then mtS h j A else hg h 115 j)) k := by
        obtain ⟨n, s, n2, s2, en, en', es, es', ec, rt⟩ := ot k (by omega)
        refine ⟨n, s, n2, s2, ?_, ?_, ?_, ?_, ?_, fun j hj => ?_⟩
        · rw [rd _ _ (by omega), en]
        · rw [rd _ _ (by omega), en']
        · rw [rd _ _ (by omega), es]
        · rw [rd _ _ (by omega), es']
        · rw [rd _ _ (by omega), rd _ _ (by omega), ec]
        · rw [rd _ _ (by omega), rd _ _ (by omega)]
          exact rt j hj
      have mm : mtS (sR h 115 (fun j => if j < k then mtS h j A else hg h 115 j)) k A = mtS h k A := by
        refine mtS_congr (fun a ha => mt_congr (fun j => rd _ _ (by omega)) (fun j => rd _ _ (by omega)) (rd _ _ (by omega)) (rd _ _ (by omega)) (rd _ _ (by omega)))
      rw [← ih (k + 1) (by omega), g211_2, rd _ _ (by decide), eT, if_neg (nI_ge (by omega) (by omega))]
      simp only [cI, e209 X _ _ A k hA (by omega) (show hg (sR h 115 (fun j => if j < k then mtS h j A else hg h 115 j)) 86 31 = nI A by rw [rd _ _ (by decide), eA]) oa' ot', rI_i, hkk, bI k 12 (show k < 12 by omega) (by omega), if_false, nI_1, mm, sI_sR]
      have : (fun j => if j = k then mtS h k A else if j < k then mtS h j A else hg h 115 j) = (fun j => if j < k + 1 then mtS h j A else hg h 115 j) := by
        funext j
        by_cases c : j = k
        · subst c
          rw [if_pos rfl, if_pos (by omega)]
        · rw [if_neg c]
          by_cases c2 : j < k
          · rw [if_pos c2, if_pos (by omega)]
          · rw [if_neg c2, if_neg (by omega)]
      rw [this]
  have := key T 0 (by omega)
  rw [sR_self h 115 _ (fun j => by rw [if_neg (by omega)])] at this
  rw [g211]
  exact this
theorem e213 (X : XS) (h : H2) (Q : Option Value → H2 → Prop) (A T : Nat) (hA : A ≤ 8) (eA : hg h 86 31 = nI A) (hT : T ≤ 12) (eT : hg h 86 34 = nI T) :
    E X 213 8 [some (.ref 86), some (.int 0), some (.int 0)] [] h Q ↔ Q (some (.int (nI (cnt (fun s => isW (hg h 115) (hg h 112) T s) (2 ^ A))))) h := by
  have hp := pw8 hA
  have key : ∀ i k, k + i = 2 ^ A → (E X 213 8 [some (.ref 86), some (.int (nI (cnt (fun s => isW (hg h 115) (hg h 112) T s) k))), some (.int (nI k))] [] h Q ↔ Q (some (.int (nI (cnt (fun s => isW (hg h 115) (hg h 112) T s) (2 ^ A))))) h) := by
    intro i
    induction i with
    | zero =>
      intro k hk
      have : k = 2 ^ A := by omega
      rw [g213_8, eA, p2 (by omega), ← this, if_pos (nI_le (Nat.le_refl _) (by omega))]
    | succ i ih =>
      intro k hk
      rw [← ih (k + 1) (by omega), g213_8, eA, p2 (by omega), if_neg (nI_ge (by omega) (by omega))]
      simp only [cI, e212 X _ _ T hT eT, rI_i, nI_1, bz_0, Int32.add_zero]
      have ee : cnt (fun s => isW (hg h 115) (hg h 112) T s) (k + 1) = cnt (fun s => isW (hg h 115) (hg h 112) T s) k + (if isW (hg h 115) (hg h 112) T k = true then 1 else 0) := rfl
      rw [ee]
      by_cases c2 : (!anyB (bw (hg h 115) (hg h 112) (nI k)) T) = true
      · have c3 : isW (hg h 115) (hg h 112) T k = true := c2
        rw [if_neg (fun z => z c2), if_pos c3]
      · have c3 : ¬ isW (hg h 115) (hg h 112) T k = true := c2
        rw [if_pos c2, if_neg c3]
        rfl
  exact key (2 ^ A) 0 (by omega)
theorem InvN_115 {h : H2} (iv : InvN h) (f : Nat → Int32) : InvN (sR h 115 f) := InvN_w iv (fun a j ha => hg_sRn _ (by omega))
theorem c_worlds (X : XS) (h : H2) (iv : InvN h) : EC X 125 [.ref 5] h (fun v1 h1 => EC X 213 [.ref 86] h1 (fun v2 h2 => v1 = v2 ∧ InvN h2 ∧ Wr [0, 5] h h2)) := by
  have iv' := iv
  obtain ⟨A, T, hA, hT, a1, a2, t1, t2, oa, ot, oz⟩ := iv
  simp only [g125, cI, e54 X _ _ A T hA a1 hT t1, rI_i, g213, cV, e211 X _ _ A T hA hT a2 t2 oa (fun t ht => (ot t ht).1), rV_n]
  rw [e213 X _ _ A T hA (by rw [hg_sRn _ (by decide), a2]) hT (by rw [hg_sRn _ (by decide), t2])]
  refine ⟨?_, InvN_115 iv' _, Wr_sR (Wr_refl _ _) (fun j => by exact List.mem_cons_self ..)⟩
  have : cnt (fun s => suB 0 s && isW (hg h 61) (hg h 60) T s) (2 ^ A) = cnt (fun s => isW (hg (sR h 115 (fun j => if j < T then mtS h j A else hg h 115 j)) 115) (hg (sR h 115 (fun j => if j < T then mtS h j A else hg h 115 j)) 112) T s) (2 ^ A) := by
    apply cnt_congr
    intro s _
    show (suB 0 s && _) = _
    rw [suB_0, Bool.true_and]
    apply bw_congr
    · intro t ht
      rw [hg_sRe]
      show _ = if t < T then _ else _
      rw [if_pos ht, (ot t ht).2]
    · intro t ht
      rw [hg_sRn _ (by decide)]
      obtain ⟨⟨n, s, n2, s2, en, en', es, es', ec, rt⟩, o2⟩ := ot t ht
      exact ec
  rw [this]
def suF (x y : Nat) : Int32 := if x = 0 then -9 else if y = 0 then 0 else if y = x then 2 else 1
theorem e214 (X : XS) (h : H2) (Q : Option Value → H2 → Prop) (A T : Nat) (hA : A ≤ 8) (eA : hg h 86 31 = nI A) (hT : T ≤ 12) (eT : hg h 86 34 = nI T) (d1 d2 w : Int32) :
    E X 214 67 [some (.ref 86), some (.int d1), some (.int d2), some (.int w), some (.int 0), some (.int 0), some (.int 0)] [] h Q ↔
      Q (some (.int (suF (cnt (fun s => isW (hg h 115) (hg h 112) T s) (2 ^ A)) (cnt (fun s => suB w s && isW (hg h 115) (hg h 112) T s) (2 ^ A))))) h := by
  have hp := pw8 hA
  have key : ∀ i k, k + i = 2 ^ A → (E X 214 67 [some (.ref 86), some (.int d1), some (.int d2), some (.int w), some (.int (nI (cnt (fun s => isW (hg h 115) (hg h 112) T s) k))), some (.int (nI (cnt (fun s => suB w s && isW (hg h 115) (hg h 112) T s) k))), some (.int (nI k))] [] h Q ↔ 
      Q (some (.int (suF (cnt (fun s => isW (hg h 115) (hg h 112) T s) (2 ^ A)) (cnt (fun s => suB w s && isW (hg h 115) (hg h 112) T s) (2 ^ A))))) h) := by
    intro i
    induction i with
    | zero =>
      intro k hk
      have : k = 2 ^ A := by omega
      have b1 := cnt_le (fun s => isW (hg h 115) (hg h 112) T s) (2 ^ A)
      have b2 := cnt_le (fun s => suB w s && isW (hg h 115) (hg h 112) T s) (2 ^ A)
      have e0 : (0 : Int32) = nI 0 := by decide
      rw [g214_67, eA, p2 (by omega), this, if_pos (nI_le (Nat.le_refl _) (by omega))]
      generalize cnt (fun s => isW (hg h 115) (hg h 112) T s) (2 ^ A) = x at *
      generalize cnt (fun s => suB w s && isW (hg h 115) (hg h 112) T s) (2 ^ A) = y at *
      have q1 : nI x = 0 ↔ x = 0 := by rw [e0, nI_eq (by omega) (by omega)]
      have q2 : nI y = 0 ↔ y = 0 := by rw [e0, nI_eq (by omega) (by omega)]
      have q3 : nI y = nI x ↔ y = x := nI_eq (by omega) (by omega)
      simp only [q1, q2, q3]
      unfold suF
      by_cases c1 : x = 0
      · rw [if_neg (fun z => z c1), if_pos c1]
      · rw [if_pos c1, if_neg c1]
        by_cases c2 : y = 0
        · have c3 : ¬ y = x := by omega
          rw [if_pos c2, if_pos c3, if_neg (fun z => z c2)]
        · rw [if_neg c2]
          by_cases c3 : y = x
          · rw [if_neg (fun z => z c3), if_pos c3]
          · rw [if_pos c3, if_pos c2, if_neg c3]
    | succ i ih =>
      intro k hk
      rw [← ih (k + 1) (by omega), g214_67, eA, p2 (by omega), if_neg (nI_ge (by omega) (by omega))]
      simp only [cI, e212 X _ _ T hT eT, rI_i, nI_1, bz_0, Int32.add_zero]
      have ee : cnt (fun s => isW (hg h 115) (hg h 112) T s) (k + 1) = cnt (fun s => isW (hg h 115) (hg h 112) T s) k + (if isW (hg h 115) (hg h 112) T k = true then 1 else 0) := rfl
      have ef : cnt (fun s => suB w s && isW (hg h 115) (hg h 112) T s) (k + 1) = cnt (fun s => suB w s && isW (hg h 115) (hg h 112) T s) k + (if (suB w k && isW (hg h 115) (hg h 112) T k) = true then 1 else 0) := rfl
      rw [ee, ef]
      by_cases c2 : (!anyB (bw (hg h 115) (hg h 112) (nI k)) T) = true
      · have c3 : isW (hg h 115) (hg h 112) T k = true := c2
        rw [if_neg (fun z => z c2), if_pos c3, c3, Bool.and_true]
        by_cases c1 : w &&& (nI k ^^^ (-1)) = 0
        · rw [if_neg (fun z => z c1), if_pos (show suB w k = true from decide_eq_true c1)]
        · rw [if_pos c1, if_neg (show ¬ suB w k = true from fun z => c1 (of_decide_eq_true z))]
          rfl
      · have c3 : ¬ isW (hg h 115) (hg h 112) T k = true := c2
        have c4 : isW (hg h 115) (hg h 112) T k = false := by cases hh : isW (hg h 115) (hg h 112) T k with
          | true => exact absurd hh c3
          | false => rfl
        rw [if_pos c2, c4, Bool.and_false, if_neg (by decide)]
        rfl
  exact key (2 ^ A) 0 (by omega)
theorem e55 (X : XS) (h : H2) (Q : Option Value → H2 → Prop) (A T : Nat) (hA : A ≤ 8) (eA : hg h 34 7 = nI A) (hT : T ≤ 12) (eT : hg h 34 8 = nI T) (w : Int32) :
    EC X 55 [.ref 34, .int w] h Q ↔
      Q (some (.int (suF (cnt (fun s => isW (hg h 61) (hg h 60) T s) (2 ^ A)) (cnt (fun s => suB w s && isW (hg h 61) (hg h 60) T s) (2 ^ A))))) h := by
  have hp := pw8 hA
  have b1 := cnt_le (fun s => isW (hg h 61) (hg h 60) T s) (2 ^ A)
  have b2 := cnt_le (fun s => suB w s && isW (hg h 61) (hg h 60) T s) (2 ^ A)
  have e0 : (0 : Int32) = nI 0 := by decide
  have e1 : cnt (fun s => suB 0 s && isW (hg h 61) (hg h 60) T s) (2 ^ A) = cnt (fun s => isW (hg h 61) (hg h 60) T s) (2 ^ A) := cnt_congr (fun j _ => by show (suB 0 j && _) = _; rw [suB_0, Bool.true_and])
  rw [g55]
  simp only [cI, e54 X _ _ A T hA eA hT eT, rI_i, e1]
  generalize cnt (fun s => isW (hg h 61) (hg h 60) T s) (2 ^ A) = x at *
  generalize cnt (fun s => suB w s && isW (hg h 61) (hg h 60) T s) (2 ^ A) = y at *
  have q1 : nI x = 0 ↔ x = 0 := by rw [e0, nI_eq (by omega) (by omega)]
  have q2 : nI y = 0 ↔ y = 0 := by rw [e0, nI_eq (by omega) (by omega)]
  have q3 : nI y = nI x ↔ y = x := nI_eq (by omega) (by omega)
  simp only [q1, q2, q3]
  unfold suF
  by_cases c1 : x = 0
  · rw [if_neg (fun z => z c1), if_pos c1]
  · rw [if_pos c1, if_neg c1]
    by_cases c2 : y = 0
    · rw [if_neg (fun z => z c2), if_pos c2]
    · rw [if_pos c2, if_neg c2]
      by_cases c3 : y = x
      · rw [if_neg (fun z => z c3), if_pos c3]
      · rw [if_pos c3, if_neg c3]
theorem sure_same (X : XS) (h : H2) (iv : InvN h) (A T : Nat) (hA : A ≤ 8) (hT : T ≤ 12) (a2 : hg h 86 31 = nI A) (t2 : hg h 86 34 = nI T) (ot : ∀ t, t < T → TrOk h t ∧ hg h 61 t = mtS h t A) (d1 d2 w : Int32) :
    E X 214 67 [some (.ref 86), some (.int d1), some (.int d2), some (.int w), some (.int 0), some (.int 0), some (.int 0)] [] (sR h 115 (fun j => if j < T then mtS h j A else hg h 115 j)) (fun v2 h2 => some (.int (suF (cnt (fun s => isW (hg h 61) (hg h 60) T s) (2 ^ A)) (cnt (fun s => suB w s && isW (hg h 61) (hg h 60) T s) (2 ^ A)))) = v2 ∧ InvN h2 ∧ Wr [0, 5] h h2) := by
  rw [e214 X _ _ A T hA (show hg (sR h 115 (fun j => if j < T then mtS h j A else hg h 115 j)) 86 31 = nI A by rw [hg_sRn _ (by decide), a2]) hT (show hg (sR h 115 (fun j => if j < T then mtS h j A else hg h 115 j)) 86 34 = nI T by rw [hg_sRn _ (by decide), t2])]
  have cg : ∀ s, isW (hg h 61) (hg h 60) T s = isW (hg (sR h 115 (fun j => if j < T then mtS h j A else hg h 115 j)) 115) (hg (sR h 115 (fun j => if j < T then mtS h j A else hg h 115 j)) 112) T s := by
    intro s
    apply bw_congr
    · intro t ht
      rw [hg_sRe]
      show _ = if t < T then _ else _
      rw [if_pos ht, (ot t ht).2]
    · intro t ht
      rw [hg_sRn _ (by decide)]
      obtain ⟨⟨n, s, n2, s2, en, en', es, es', ec, rt⟩, o2⟩ := ot t ht
      exact ec
  refine ⟨?_, InvN_115 iv _, Wr_sR (Wr_refl _ _) (fun j => by exact List.mem_cons_self ..)⟩
  have fe : isW (hg h 61) (hg h 60) T = isW (hg (sR h 115 (fun j => if j < T then mtS h j A else hg h 115 j)) 115) (hg (sR h 115 (fun j => if j < T then mtS h j A else hg h 115 j)) 112) T := funext cg
  rw [fe]
theorem c_sure (X : XS) (h : H2) (iv : InvN h) (p0 p1 : Int32) : EC X 126 [.ref 5, .int p0, .int p1] h (fun v1 h1 => EC X 214 [.ref 86, .int p0, .int p1] h1 (fun v2 h2 => v1 = v2 ∧ InvN h2 ∧ Wr [0, 5] h h2)) := by
  have iv' := iv
  obtain ⟨A, T, hA, hT, a1, a2, t1, t2, oa, ot, oz⟩ := iv
  simp only [g126, cI, e161, e46, e45, rI_i, b2i_0, t1, a1, inR_c (show T < 2 ^ 31 by omega), inR_c (show A < 2 ^ 31 by omega), e55 X _ _ A T hA a1 hT t1]
  by_cases hp : 0 ≤ p0 ∧ p0 ≤ 1
  · rw [if_pos (fun z => z hp)]
    by_cases h0 : p0 = 0
    · rw [if_neg (fun z => z h0)]
      by_cases hq : 0 ≤ p1 ∧ p1 < nI A
      · rw [if_neg (fun z => z hq)]
        have hq1 : ¬ p1 < 0 := i_nlt.mpr hq.1
        have hq2 := hq.2
        have ss := sure_same X h iv' A T hA hT a2 t2 ot 0 p1 ((1 : Int32) <<< (p1 &&& 31))
        subst h0
        simp only [g214, g214_32, cI, cV, e168, rI_i, b2i_0, hp, and_self, not_true, not_false_iff, if_true, hq1, if_false, a2, hq2, e211 X _ _ A T hA hT a2 t2 oa (fun t ht => (ot t ht).1), rV_n]
        exact ss
      · rw [if_pos hq]
        subst h0
        simp only [g214, g214_32, cI, e168, rI_i, b2i_0, hp, and_self, not_true, not_false_iff, if_true, if_false, a2]
        by_cases hq1 : p1 < 0
        · rw [if_pos hq1]
          exact ⟨trivial, iv', Wr_refl _ _⟩
        · rw [if_neg hq1, if_neg (fun z => hq ⟨i_nlt.mp hq1, z⟩)]
          exact ⟨trivial, iv', Wr_refl _ _⟩
    · rw [if_pos h0]
      by_cases hq : 0 ≤ p1 ∧ p1 < nI T
      · rw [if_neg (fun z => z hq)]
        have hq1 : ¬ p1 < 0 := i_nlt.mpr hq.1
        have hq2 := hq.2
        obtain ⟨t, ht, rfl⟩ := (inR_lt (show T < 2 ^ 31 by omega)).mp hq
        have hk : (nI t).toNatClampNeg = t := nI_clamp (by omega)
        have ss := sure_same X h iv' A T hA hT a2 t2 ot p0 (nI t) (mtS h t A)
        have f1 : hg (sR h 115 (fun j => if j < T then mtS h j A else hg h 115 j)) 115 t = mtS h t A := by
          rw [hg_sRe]
          show (if t < T then _ else _) = _
          rw [if_pos ht]
        have b12 : ¬ 12 ≤ t := by omega
        simp only [hk, hq1, b12, or_self, if_false, (ot t ht).2]
        simp only [g214, g214_32, cI, cV, e168, rI_i, b2i_0, hp, and_self, not_true, not_false_iff, if_true, hq1, h0, if_false, t2, hq2, hk, b12, or_self, e211 X _ _ A T hA hT a2 t2 oa (fun t ht => (ot t ht).1), rV_n, f1]
        exact ss
      · rw [if_pos hq]
        simp only [g214, g214_32, cI, e168, rI_i, b2i_0, hp, and_self, not_true, not_false_iff, if_true, h0, t2]
        by_cases hq1 : p1 < 0
        · rw [if_pos hq1]
          exact ⟨trivial, iv', Wr_refl _ _⟩
        · rw [if_neg hq1, if_neg (fun z => hq ⟨i_nlt.mp hq1, z⟩)]
          exact ⟨trivial, iv', Wr_refl _ _⟩
  · rw [if_neg (fun z => z hp)]
    simp only [g214, cI, e168, rI_i, b2i_0, hp, not_true, not_false_iff, if_false]
    exact ⟨trivial, iv', Wr_refl _ _⟩
