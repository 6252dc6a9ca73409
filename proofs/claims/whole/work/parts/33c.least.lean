/-! least: the reference's half -/
def Fn (c : Nat) (op : Nat → Bool) (fr to : Nat → Nat) (g : H2) (n s : Nat) : Prop := ∀ v, v < 12 → (∃ k, k ≤ n ∧ Ds (Ed c op fr to) k v ∧ hg g 103 v = nI k) ∨ (¬ Rb (Ed c op fr to) n v ∧ (((∃ j, j < s ∧ op j = true ∧ fr j = v ∧ Rb (Ed c op fr to) n (to j)) ∧ hg g 103 v = nI (n + 1)) ∨ ((∀ j, j < s → op j = true → fr j = v → ¬ Rb (Ed c op fr to) n (to j)) ∧ hg g 103 v = -9)))
theorem Fn_nx {c : Nat} {op : Nat → Bool} {fr to : Nat → Nat} {g : H2} {n : Nat} (f : Fn c op fr to g n c) : Fn c op fr to g (n + 1) 0 := by
  intro v hv
  rcases f v hv with ⟨k, hk, d, q⟩ | ⟨no, ⟨⟨j, hj, a1, a2, a3⟩, q⟩ | ⟨na, q⟩⟩
  · exact Or.inl ⟨k, by omega, d, q⟩
  · exact Or.inl ⟨n + 1, Nat.le_refl _, ⟨Or.inr ⟨to j, ⟨j, hj, a1, a2, rfl⟩, a3⟩, fun k hk z => no (Rb_le (by omega) z)⟩, q⟩
  · refine Or.inr ⟨?_, Or.inr ⟨fun j hj => absurd hj (Nat.not_lt_zero _), q⟩⟩
    rintro (z | ⟨w, ⟨j, hj, a1, a2, rfl⟩, z⟩)
    · exact no z
    · exact na j hj a1 a2 z
theorem Fn_far {c : Nat} {op : Nat → Bool} {fr to : Nat → Nat} {g : H2} (h12 : ∀ s, s < c → to s < 12) (f : Fn c op fr to g 12 0) : Far (Ed c op fr to) (fun v => hg g 103 v) (-9) := by
  intro v hv
  rcases f v hv with ⟨k, hk, d, q⟩ | ⟨no, ⟨⟨j, hj, -⟩, q⟩ | ⟨na, q⟩⟩
  · exact Or.inl ⟨k, Ds_11 (Ed_12 h12) hv d, d, q⟩
  · exact absurd hj (Nat.not_lt_zero _)
  · refine Or.inr ⟨fun n z => ?_, q⟩
    obtain ⟨k, hk, d⟩ := Ds_ex n z
    exact no (Rb_le (by have := Ds_11 (Ed_12 h12) hv d; omega) d.1)
theorem Fn_is {c : Nat} {op : Nat → Bool} {fr to : Nat → Nat} {g : H2} {n s : Nat} (f : Fn c op fr to g n s) (hn : n ≤ 12) {v : Nat} (hv : v < 12) : hg g 103 v = nI n ↔ Ds (Ed c op fr to) n v := by
  rcases f v hv with ⟨k, hk, d, q⟩ | ⟨no, ⟨-, q⟩ | ⟨-, q⟩⟩
  · rw [q, nI_eq (by omega) (by omega)]
    exact ⟨fun z => z ▸ d, fun z => Ds_uq d z⟩
  · rw [q, nI_eq (by omega) (by omega)]
    exact ⟨fun z => by omega, fun z => absurd z.1 no⟩
  · rw [q]
    exact ⟨fun z => absurd z.symm (nI_m9 (by omega)), fun z => absurd z.1 no⟩
/-- a step that lays nothing -/
theorem Fn_go {c : Nat} {op : Nat → Bool} {fr to : Nat → Nat} {g : H2} {n s : Nat} (hs : s < c) (f : Fn c op fr to g n s) (hx : op s = true → Ds (Ed c op fr to) n (to s) → hg g 103 (fr s) ≠ -9) : Fn c op fr to g n (s + 1) := by
  intro v hv
  rcases f v hv with ⟨k, hk, d, q⟩ | ⟨no, ⟨⟨j, hj, a⟩, q⟩ | ⟨na, q⟩⟩
  · exact Or.inl ⟨k, hk, d, q⟩
  · exact Or.inr ⟨no, Or.inl ⟨⟨j, by omega, a⟩, q⟩⟩
  · refine Or.inr ⟨no, Or.inr ⟨fun j hj o1 o2 rb => ?_, q⟩⟩
    by_cases e : j = s
    · subst e
      obtain ⟨k, hk, d⟩ := Ds_ex n rb
      by_cases z : k = n
      · subst z
        exact hx o1 d (by rw [o2]; exact q)
      · exact no (Rb_le (show k + 1 ≤ n by omega) (Or.inr ⟨to j, ⟨j, hs, o1, o2, rfl⟩, d.1⟩))
    · exact na j (by omega) o1 o2 rb
theorem p193i (X : XS) (h : H2) {cl : Nat} {ad : Nat → Nat} {c : Nat} {fr to : Nat → Nat} (x : WyC h cl ad c fr to) (d : Int32) (op : Nat → Bool) (hop : ∀ s, op s = opB h cl d s) (Q : Option Value → H2 → Prop) (n : Nat) (hn : n < 12) (cont : ∀ g, Wr [0] h g → Fn c op fr to g n c → E X 193 34 [some (.ref 86), some (.int d), some (.int (nI (n + 1))), some (.int (nI c)), none] [] g Q) : ∀ m s g, s + m = c → Wr [0] h g → Fn c op fr to g n s → E X 193 42 [some (.ref 86), some (.int d), some (.int (nI n)), some (.int (nI s)), none] [] g Q := by
  have c24 := x.c24
  intro m
  induction m with
  | zero =>
    intro s g hs w f
    obtain rfl : s = c := by omega
    rw [g193_42, (WyC_W x w).c2, if_pos (nI_le (Nat.le_refl _) (by omega)), nI_1]
    exact cont g w f
  | succ m ih =>
    intro s g hs w f
    have y := WyC_W x w
    have hsc : s < c := by omega
    have f12 := x.f12 s hsc
    have t12 := x.t12 s hsc
    have b2 := bI s 24 (by omega) (by omega)
    have bf := bI (fr s) 12 f12 (by omega)
    rw [g193_42, y.c2, if_neg (nI_ge hsc (by omega)), nI_clamp (show s < 2 ^ 31 by omega), if_neg b2, y.r98 s hsc, nI_clamp (show to s < 2 ^ 31 by omega), if_neg (bI (to s) 12 t12 (by omega)), nI_1, if_neg b2, y.r97 s hsc, nI_clamp (show fr s < 2 ^ 31 by omega), if_neg bf]
    by_cases q1 : Ds (Ed c op fr to) n (to s)
    · rw [if_neg (show ¬ ¬ hg g 103 (to s) = nI n from fun z => z ((Fn_is f (by omega) t12).mpr q1))]
      by_cases q2 : hg g 103 (fr s) = -9
      · rw [if_neg (show ¬ ¬ hg g 103 (fr s) = -9 from fun z => z q2)]
        show EC X 192 _ _ _
        rw [e192 X g _ cl ad y.ls s (by omega) (y.so s hsc), rI_i, opB_W n20 n30 w, ← hop]
        dsimp only
        by_cases q3 : op s = true
        · rw [if_neg (fun z => (bz_0 _).mp z q3), if_neg b2, y.r97 s hsc, nI_clamp (show fr s < 2 ^ 31 by omega), if_neg bf, nI_1]
          refine ih (s + 1) _ (by omega) (Wr_sI w m00) ?_
          intro v hv
          by_cases e : v = fr s
          · subst e
            rw [hg_eq]
            rcases f (fr s) f12 with ⟨k, hk, d', q⟩ | ⟨no, -⟩
            · rw [q] at q2
              exact absurd q2 (nI_m9 (by omega))
            · exact Or.inr ⟨no, Or.inl ⟨⟨s, by omega, q3, rfl, q1.1⟩, rfl⟩⟩
          · rw [hg_nj _ e]
            rcases f v hv with z | ⟨no, ⟨⟨j, hj, a⟩, q⟩ | ⟨na, q⟩⟩
            · exact Or.inl z
            · exact Or.inr ⟨no, Or.inl ⟨⟨j, by omega, a⟩, q⟩⟩
            · refine Or.inr ⟨no, Or.inr ⟨fun j hj o1 o2 rb => ?_, q⟩⟩
              by_cases ej : j = s
              · subst ej; exact e o2.symm
              · exact na j (by omega) o1 o2 rb
        · rw [if_pos ((bz_0 _).mpr q3)]
          exact ih (s + 1) g (by omega) w (Fn_go hsc f (fun z => absurd z q3))
      · rw [if_pos q2]
        exact ih (s + 1) g (by omega) w (Fn_go hsc f (fun _ _ => q2))
    · rw [if_pos (show ¬ hg g 103 (to s) = nI n from fun z => q1 ((Fn_is f (by omega) t12).mp z))]
      exact ih (s + 1) g (by omega) w (Fn_go hsc f (fun _ z => absurd z q1))
theorem subv : ∀ D, D < 12 → ∀ k, k < D → nI D - nI k - 1 = nI (D - 1 - k) := by decide +kernel
theorem xm9 : ∀ k, k ≤ 11 → ¬ (-9 : Int32) = nI k := fun k hk z => nI_m9 (by omega) z.symm
theorem p193w (X : XS) (h : H2) {cl : Nat} {ad : Nat → Nat} {c : Nat} {fr to : Nat → Nat} (x : WyC h cl ad c fr to) (d : Int32) (op : Nat → Bool) (hop : ∀ s, op s = opB h cl d s) (Q : Option Value → H2 → Prop) (D : Nat) (dd : Ds (Ed c op fr to) D 0) (cont : ∀ g, Wr [0] h g → (∀ i, i < D → hg g 104 i = nI (prt c op fr to D i)) → Q (some (.int (nI D))) g) : ∀ m k u g, k + m = D → Wr [0] h g → Far (Ed c op fr to) (fun v => hg g 103 v) (-9) → (∀ i, i < k → hg g 104 i = nI (prt c op fr to D i)) → E X 193 134 [some (.ref 86), some (.int d), some (.int (nI (stn c op fr to D k))), some (.int (nI k)), u] [] g Q := by
  have c24 := x.c24
  have hD : D ≤ 11 := Ds_11 (Ed_12 x.t12) (by omega) dd
  intro m
  induction m with
  | zero =>
    intro k u g hk w fa hr
    obtain rfl : k = D := by omega
    have q0 : hg g 103 0 = nI k := (Far_is fa xm9 (by omega) hD).mpr dd
    rw [g193_134u, q0, if_pos (nI_le (Nat.le_refl _) (by omega))]
    exact cont g w hr
  | succ m ih =>
    intro k u g hk w fa hr
    have y := WyC_W x w
    have q0 : hg g 103 0 = nI D := (Far_is fa xm9 (by omega) hD).mpr dd
    obtain ⟨s1, s2⟩ := stn_is x.t12 dd k (by omega)
    have s2' : Ds (Ed c op fr to) (D - 1 - k + 1) (stn c op fr to D k) := by rw [show D - 1 - k + 1 = D - k by omega]; exact s2
    rw [g193_134u, q0, if_neg (nI_ge (by omega) (by omega))]
    have key : ∀ m' s, s + m' = c → (∀ j, j < s → nxB (Ed c op fr to) op fr to (D - 1 - k) (stn c op fr to D k) j = false) → E X 193 147 [some (.ref 86), some (.int d), some (.int (nI (stn c op fr to D k))), some (.int (nI k)), some (.int (nI s))] [] g Q := by
      intro m'
      induction m' with
      | zero =>
        intro s hs hj
        obtain ⟨a1, a2, a3⟩ := nx_is s2'
        rw [hj _ (by omega)] at a2
        cases a2
      | succ m' ih' =>
        intro s hs hj
        have hsc : s < c := by omega
        have t12 := y.t12 s hsc
        have f12 := y.f12 s hsc
        have b2 := bI s 24 (by omega) (by omega)
        have no : ¬ (op s = true ∧ fr s = stn c op fr to D k ∧ Ds (Ed c op fr to) (D - 1 - k) (to s)) → E X 193 147 [some (.ref 86), some (.int d), some (.int (nI (stn c op fr to D k))), some (.int (nI k)), some (.int (nI (s + 1)))] [] g Q := fun z => ih' (s + 1) (by omega) (fun j hj' => by
          by_cases ej : j = s
          · subst ej
            cases q : nxB (Ed c op fr to) op fr to (D - 1 - k) (stn c op fr to D k) j with
            | true => exact absurd (nxB_t.mp q) z
            | false => rfl
          · exact hj j (by omega))
        rw [g193_147, nI_clamp (show s < 2 ^ 31 by omega), if_neg b2, if_neg b2, y.r97 s hsc, y.r98 s hsc, nI_clamp (show to s < 2 ^ 31 by omega), if_neg (bI (to s) 12 t12 (by omega)), nI_1, q0, subv D (by omega) k (by omega)]
        by_cases q2 : fr s = stn c op fr to D k
        · rw [if_neg (show ¬ ¬ nI (fr s) = nI (stn c op fr to D k) from fun z => z (by rw [q2]))]
          by_cases q3 : Ds (Ed c op fr to) (D - 1 - k) (to s)
          · rw [if_neg (show ¬ ¬ hg g 103 (to s) = nI (D - 1 - k) from fun z => z ((Far_is fa xm9 t12 (by omega)).mpr q3))]
            show EC X 192 _ _ _
            rw [e192 X g _ cl ad y.ls s (by omega) (y.so s hsc), rI_i, opB_W n20 n30 w, ← hop]
            dsimp only
            by_cases q1 : op s = true
            · rw [if_pos (show ¬ bz (op s) = 0 from fun z => (bz_0 _).mp z q1), nI_clamp (show k < 2 ^ 31 by omega), if_neg (bI k 12 (by omega) (by omega)), if_neg b2, y.r98 s hsc, nI_1]
              have e : nx c op fr to (D - 1 - k) (stn c op fr to D k) = s := nx_eq s2' (nxB_t.mpr ⟨q1, q2, q3⟩) hj
              have e' : to s = stn c op fr to D (k + 1) := by rw [stn, e]
              rw [e']
              refine ih (k + 1) _ _ (by omega) (Wr_sI w m00) ?_ ?_
              · intro v hv
                show (∃ t, t ≤ 11 ∧ _ ∧ hg (sI g 104 k _) 103 v = nI t) ∨ (_ ∧ hg (sI g 104 k _) 103 v = -9)
                rw [hg_ne _ (by decide)]
                exact fa v hv
              · intro i hi
                by_cases ei : i = k
                · subst ei; rw [hg_eq, prt, e]
                · rw [hg_nj _ ei]; exact hr i (by omega)
            · rw [if_neg (show ¬ ¬ bz (op s) = 0 from fun z => z ((bz_0 _).mpr q1))]
              exact no (fun z => q1 z.1)
          · rw [if_pos (show ¬ hg g 103 (to s) = nI (D - 1 - k) from fun z => q3 ((Far_is fa xm9 t12 (by omega)).mp z))]
            exact no (fun z => q3 z.2.2)
        · rw [if_pos (show ¬ nI (fr s) = nI (stn c op fr to D k) from fun z => q2 ((nI_eq (by omega) (by omega)).mp z))]
          exact no (fun z => q2 z.2.1)
    exact key c 0 (by omega) (fun j hj => absurd hj (Nat.not_lt_zero _))
theorem p193 (X : XS) (h : H2) {cl : Nat} {ad : Nat → Nat} {c : Nat} {fr to : Nat → Nat} (x : WyC h cl ad c fr to) (d : Int32) (op : Nat → Bool) (hop : ∀ s, op s = opB h cl d s) (Q : Option Value → H2 → Prop) (c0 : (∀ n, ¬ Rb (Ed c op fr to) n 0) → ∀ g, Wr [0] h g → Q (some (.int (-9))) g) (c1 : ∀ D, D ≤ 11 → Ds (Ed c op fr to) D 0 → ∀ g, Wr [0] h g → (∀ i, i < D → hg g 104 i = nI (prt c op fr to D i)) → Q (some (.int (nI D))) g) : EC X 193 [.ref 86, .int d] h Q := by
  have rounds : ∀ m n u g, n + m = 12 → Wr [0] h g → Fn c op fr to g n 0 → E X 193 34 [some (.ref 86), some (.int d), some (.int (nI n)), u, none] [] g Q := by
    intro m
    induction m with
    | zero =>
      intro n u g hn w f
      obtain rfl : n = 12 := by omega
      rw [g193_34u, if_pos (show (12 : Int32) ≤ nI 12 by decide)]
      have fa := Fn_far x.t12 f
      rcases fa 0 (by omega) with ⟨D, hD, ds, q⟩ | ⟨no, q⟩
      · have q' : hg g 103 0 = nI D := q
        rw [q', if_pos (nI_m9 (by omega))]
        exact p193w X h x d op hop Q D ds (c1 D hD ds) D 0 none g (by omega) w fa (fun i hi => absurd hi (Nat.not_lt_zero _))
      · have q' : hg g 103 0 = -9 := q
        rw [q', if_neg (fun z => z rfl)]
        exact c0 no g w
    | succ m ih =>
      intro n u g hn w f
      rw [g193_34u, show (12 : Int32) = nI 12 by decide, if_neg (nI_ge (by omega) (by omega))]
      exact p193i X h x d op hop Q n (by omega) (fun g w f => ih (n + 1) _ g (by omega) w (Fn_nx f)) c 0 g (by omega) w f
  have fill : ∀ m k g, k + m = 12 → Wr [0] h g → (∀ v, v < k → hg g 103 v = if v = 11 then 0 else -9) → E X 193 2 [some (.ref 86), some (.int d), some (.int (nI k)), none, none] [] g Q := by
    intro m
    induction m with
    | zero =>
      intro k g hk w hv
      obtain rfl : k = 12 := by omega
      rw [g193_2, if_pos (show (12 : Int32) ≤ nI 12 by decide)]
      refine rounds 12 0 none g rfl w ?_
      intro v h12
      have q := hv v h12
      by_cases e : v = 11
      · rw [if_pos e] at q
        exact Or.inl ⟨0, Nat.le_refl _, ⟨e, fun k hk => absurd hk (Nat.not_lt_zero _)⟩, q⟩
      · rw [if_neg e] at q
        exact Or.inr ⟨e, Or.inr ⟨fun j hj => absurd hj (Nat.not_lt_zero _), q⟩⟩
    | succ m ih =>
      intro k g hk w hv
      rw [g193_2, show (12 : Int32) = nI 12 by decide, if_neg (nI_ge (by omega) (by omega)), nI_clamp (by omega), if_neg (bI k 12 (by omega) (by omega)), nI_1, show (11 : Int32) = nI 11 by decide]
      have fin : ∀ z, z = (if k = 11 then (0 : Int32) else -9) → E X 193 2 [some (.ref 86), some (.int d), some (.int (nI (k + 1))), none, none] [] (sI g 103 k z) Q := fun z hz => ih (k + 1) _ (by omega) (Wr_sI w m00) (fun v h1 => by
        by_cases e : v = k
        · subst e; rw [hg_eq]; exact hz
        · rw [hg_nj _ e]; exact hv v (by omega))
      by_cases e : k = 11
      · rw [if_neg (show ¬ ¬ nI k = nI 11 from fun z => z (by rw [e]))]
        rw [if_neg (bI k 12 (by omega) (by omega))]
        exact fin _ (by rw [if_pos e])
      · rw [if_pos (show ¬ nI k = nI 11 from fun z => e ((nI_eq (by omega) (by omega)).mp z))]
        exact fin _ (by rw [if_neg e])
  rw [g193]
  exact fill 12 0 h rfl (Wr_refl _ _) (fun v hv => absurd hv (Nat.not_lt_zero _))
theorem c_least (X : XS) (h : H2) (il : InvL h) (iw : InvW h) (p0 p1 : Int32) : EC X 115 [.ref 5, .int p0, .int p1] h (fun v1 h1 => EC X 194 [.ref 86, .int p0, .int p1] h1 (fun v2 h2 => v1 = v2 ∧ Wr [0] h h2)) := by
  obtain ⟨cl, ad, ls⟩ := il
  obtain ⟨c, hc, k1, k2, so⟩ := iw
  have x : WyC h cl ad c (fun s => (hg h 20 s).toNatClampNeg) (fun s => (hg h 21 s).toNatClampNeg) := by
    refine ⟨ls, hc, k1, k2, so, ?_, ?_, ?_, ?_, ?_, ?_⟩ <;> intro s hs <;> obtain ⟨x, y, hx, hy, a1, a2, b1, b2, -⟩ := so s hs <;> dsimp only
    · rw [a1, nI_clamp (by omega)]; exact hx
    · rw [b1, nI_clamp (by omega)]; exact hy
    · rw [a1, nI_clamp (by omega)]
    · rw [a1, nI_clamp (by omega), a2]
    · rw [b1, nI_clamp (by omega)]
    · rw [b1, nI_clamp (by omega), b2]
  generalize (fun s => (hg h 20 s).toNatClampNeg) = fr at x
  generalize (fun s => (hg h 21 s).toNatClampNeg) = to at x
  rw [g115]
  show EC X 162 _ _ _
  rw [e162, rI_i]
  dsimp only
  by_cases a1 : 0 ≤ p0 ∧ p0 ≤ 99
  · rw [b2i_t a1, if_pos n1_0]
    have md : ∀ (g : H2) R, EC X 194 [.ref 86, .int p0, .int p1] g R ↔ if (-1 : Int32) ≤ p1 then cI X 193 [.ref 86, .int p0] g (fun x4 h3 => if x4 = (-9 : Int32) then R (some (.int x4)) h3 else if ¬ p1 = (-1 : Int32) then if x4 ≤ p1 then R (some (.int (-1 : Int32))) h3 else (if p1 < 0 ∨ 12 ≤ p1.toNatClampNeg then False else R (some (.int (hg h3 104 p1.toNatClampNeg))) h3) else R (some (.int x4)) h3) else R (some (.int (-1 : Int32))) g := by
      intro g R
      rw [g194]
      show EC X 169 _ _ _ ↔ _
      rw [e169, rI_i, b2i_t a1]
      dsimp only
      rw [if_pos n1_0]
    by_cases a2 : (-1 : Int32) ≤ p1
    · rw [if_pos a2]
      show EC X 103 _ _ _
      refine p103a X h x p0 (opB h cl p0) (fun _ => rfl) _ ?_ ?_
      · intro no g w
        rw [rI_i]
        dsimp only
        rw [if_pos rfl, md, if_pos a2]
        show EC X 193 _ _ _
        refine p193 X g (WyC_W x w) p0 (opB h cl p0) (fun s => (opB_W n20 n30 w _ _ _).symm) _ ?_ ?_
        · intro _ g' w'
          rw [rI_i]
          dsimp only
          rw [if_pos rfl]
          exact ⟨rfl, Wr_trans w w'⟩
        · intro D hD dd
          exact absurd dd.1 (no D)
      · intro D hD dd g w hr
        rw [rI_i]
        dsimp only
        rw [if_neg (nI_m9 (by omega))]
        have D0 : D ≠ 0 := fun z => by subst z; exact absurd dd.1 (show ¬ (0 = 11) by decide)
        obtain ⟨D', rfl⟩ : ∃ D', D = D' + 1 := ⟨D - 1, by omega⟩
        have mr : ∀ R : Option Value → H2 → Prop, (∀ g', Wr [0] h g' → (∀ i, i < D' + 1 → hg g' 104 i = nI (prt c (opB h cl p0) fr to (D' + 1) i)) → (if ¬ p1 = (-1 : Int32) then if nI (D' + 1) ≤ p1 then R (some (.int (-1 : Int32))) g' else (if p1 < 0 ∨ 12 ≤ p1.toNatClampNeg then False else R (some (.int (hg g' 104 p1.toNatClampNeg))) g') else R (some (.int (nI (D' + 1)))) g')) → EC X 194 [.ref 86, .int p0, .int p1] g R := by
          intro R hR
          rw [md, if_pos a2]
          show EC X 193 _ _ _
          refine p193 X g (WyC_W x w) p0 (opB h cl p0) (fun s => (opB_W n20 n30 w _ _ _).symm) _ ?_ ?_
          · intro no
            exact absurd dd.1 (no _)
          · intro E' hE de g' w' hr'
            obtain rfl : E' = D' + 1 := Ds_uq de dd
            rw [rI_i]
            dsimp only
            rw [if_neg (nI_m9 (by omega))]
            exact hR g' (Wr_trans w w') hr'
        by_cases a3 : p1 = -1
        · rw [if_neg (show ¬ ¬ p1 = -1 from fun z => z a3)]
          refine mr _ ?_
          intro g' w' _
          rw [if_neg (show ¬ ¬ p1 = -1 from fun z => z a3)]
          exact ⟨rfl, w'⟩
        · rw [if_pos a3]
          show EC X 161 _ _ _
          rw [e161, rI_i, nI_pred]
          dsimp only
          have p0' : ¬ p1 < 0 := fun z => a3 (Int32.toInt_inj.mp (by
            have z1 := Int32.lt_iff_toInt_lt.mp z
            have z2 := Int32.le_iff_toInt_le.mp a2
            have z3 : (0 : Int32).toInt = 0 := by decide
            have z4 : (-1 : Int32).toInt = -1 := by decide
            omega))
          obtain ⟨j, hj, rfl⟩ := nI_of p0'
          by_cases a4 : j ≤ D'
          · rw [b2i_t (show 0 ≤ nI j ∧ nI j ≤ nI D' from ⟨nI_pos' hj, nI_le a4 (by omega)⟩), if_neg n1_0, nI_clamp hj, if_neg (bI j 11 (by omega) (by omega)), hr j (by omega)]
            refine mr _ ?_
            intro g' w' hr'
            rw [if_pos a3, if_neg (nI_ge (by omega) (by omega)), nI_clamp hj, if_neg (bI j 12 (by omega) (by omega)), hr' j (by omega)]
            exact ⟨rfl, w'⟩
          · rw [b2i_f (show ¬ (0 ≤ nI j ∧ nI j ≤ nI D') from fun z => nI_ge (show D' < j by omega) hj z.2), if_pos rfl]
            refine mr _ ?_
            intro g' w' _
            rw [if_pos a3, if_pos (nI_le (by omega) hj)]
            exact ⟨rfl, w'⟩
    · rw [if_neg a2, md, if_neg a2]
      exact ⟨rfl, Wr_refl _ _⟩
  · rw [b2i_f a1, if_neg (fun z => z rfl), g194]
    show EC X 169 _ _ _
    rw [e169, rI_i, b2i_f a1]
    dsimp only
    rw [if_neg (fun z => z rfl)]
    exact ⟨rfl, Wr_refl _ _⟩
