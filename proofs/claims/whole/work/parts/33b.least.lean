theorem e1000 : (1000 : Int32) = nI 1000 := by decide
theorem minv (t1 t2 : Nat) (h1 : t1 ≤ 1000) (h2 : t2 ≤ 1000) : (if (if nI t2 + 1 < (1000 : Int32) then nI t2 + 1 else (1000 : Int32)) < nI t1 then (if nI t2 + 1 < (1000 : Int32) then nI t2 + 1 else (1000 : Int32)) else nI t1) = nI (min t1 (min (t2 + 1) 1000)) := by
  rw [e1000, nI_1]
  by_cases a : t2 + 1 < 1000
  · rw [if_pos (nI_lt a (by omega))]
    by_cases b : t2 + 1 < t1
    · rw [if_pos (nI_lt b (by omega))]; congr 1; omega
    · rw [if_neg (nI_nlt (by omega) (by omega))]; congr 1; omega
  · rw [if_neg (nI_nlt (by omega) (by omega))]
    by_cases b : 1000 < t1
    · omega
    · rw [if_neg (nI_nlt (by omega) (by omega))]; congr 1; omega
theorem p104i (X : XS) (h : H2) {cl : Nat} {ad : Nat → Nat} {c : Nat} {fr to : Nat → Nat} (x : WyC h cl ad c fr to) (op : Nat → Bool) (Q : Option Value → H2 → Prop) (r : Nat) (hr : r < 11) (cont : ∀ g, Wr [0] h g → (∀ s, s < c → hg g 26 s = bz (op s)) → Mea c op fr to g r c → E X 104 20 [some (.ref 19), some (.int (nI (r + 1))), some (.int (nI c))] [] g Q) : ∀ m s g, s + m = c → Wr [0] h g → (∀ s, s < c → hg g 26 s = bz (op s)) → Mea c op fr to g r s → E X 104 28 [some (.ref 19), some (.int (nI r)), some (.int (nI s))] [] g Q := by
  have c24 := x.c24
  intro m
  induction m with
  | zero =>
    intro s g hs w ho me
    obtain rfl : s = c := by omega
    rw [g104_28, (WyC_W x w).c1, if_pos (nI_le (Nat.le_refl _) (by omega)), nI_1]
    exact cont g w ho me
  | succ m ih =>
    intro s g hs w ho me
    have y := WyC_W x w
    have hsc : s < c := by omega
    have b2 := bI s 24 (by omega) (by omega)
    rw [g104_28, y.c1, if_neg (nI_ge hsc (by omega)), nI_clamp (by omega), if_neg b2, ho s hsc, nI_1]
    by_cases q : op s = true
    · have f12 := x.f12 s hsc
      have t12 := x.t12 s hsc
      rw [if_neg (fun z => (bz_0 _).mp z q), if_neg b2, if_neg b2, if_neg b2, y.r20 s hsc, y.r21 s hsc, nI_clamp (show fr s < 2 ^ 31 by omega), nI_clamp (show to s < 2 ^ 31 by omega), if_neg (bI (fr s) 12 f12 (by omega)), if_neg (bI (to s) 12 t12 (by omega)), if_neg (bI (fr s) 12 f12 (by omega))]
      obtain ⟨t1, ht1, q1, a1, a2, a3⟩ := me (fr s) f12
      obtain ⟨t2, ht2, q2, b1, b2', b3⟩ := me (to s) t12
      rw [q1, q2, minv t1 t2 ht1 ht2]
      refine ih (s + 1) _ (by omega) (Wr_sI w m00) (fun j hj => by rw [hg_ne _ (by decide)]; exact ho j hj) ?_
      intro v hv
      by_cases e : v = fr s
      · subst e
        refine ⟨min t1 (min (t2 + 1) 1000), by omega, hg_eq _ _ _ _, ?_, ?_, ?_⟩
        · intro z
          by_cases z1 : t1 ≤ t2 + 1
          · rw [show min t1 (min (t2 + 1) 1000) = t1 by omega]
            exact a1 (by omega)
          · rw [show min t1 (min (t2 + 1) 1000) = t2 + 1 by omega]
            exact Or.inr ⟨to s, ⟨s, hsc, q, rfl, rfl⟩, b1 (by omega)⟩
        · intro k hk rb
          have := a2 k hk rb
          omega
        · intro j hj o1 o2 k hk rb
          by_cases ej : j = s
          · subst ej
            have := b2' k hk rb
            omega
          · have := a3 j (by omega) o1 o2 k hk rb
            omega
      · obtain ⟨t, ht, qt, d1, d2, d3⟩ := me v hv
        refine ⟨t, ht, by rw [hg_nj _ e]; exact qt, d1, d2, ?_⟩
        intro j hj o1 o2 k hk rb
        exact d3 j (by
          by_cases ej : j = s
          · subst ej; exact absurd o2.symm e
          · omega) o1 o2 k hk rb
    · rw [if_pos ((bz_0 _).mpr q)]
      refine ih (s + 1) g (by omega) w ho ?_
      intro v hv
      obtain ⟨t, ht, qt, d1, d2, d3⟩ := me v hv
      refine ⟨t, ht, qt, d1, d2, ?_⟩
      intro j hj o1 o2 k hk rb
      exact d3 j (by
        by_cases ej : j = s
        · subst ej; exact absurd o1 q
        · omega) o1 o2 k hk rb
theorem p104 (X : XS) (h : H2) {cl : Nat} {ad : Nat → Nat} {c : Nat} {fr to : Nat → Nat} (x : WyC h cl ad c fr to) (op : Nat → Bool) (Q : Option Value → H2 → Prop) (g : H2) (w : Wr [0] h g) (ho : ∀ s, s < c → hg g 26 s = bz (op s)) (cont : ∀ g, Wr [0] h g → (∀ s, s < c → hg g 26 s = bz (op s)) → Far (Ed c op fr to) (fun v => hg g 27 v) 1000 → Q none g) : EC X 104 [.ref 19] g Q := by
  rw [g104]
  show EC X 270 _ _ _
  rw [e270 X _ _ 27 12 (by decide) (by decide) rfl (by decide), rV_n]
  have key : ∀ m r u g, r + m = 11 → Wr [0] h g → (∀ s, s < c → hg g 26 s = bz (op s)) → Mea c op fr to g r 0 → E X 104 20 [some (.ref 19), some (.int (nI r)), u] [] g Q := by
    intro m
    induction m with
    | zero =>
      intro r u g hr w ho me
      obtain rfl : r = 11 := by omega
      rw [g104_20u, if_pos (show (11 : Int32) ≤ nI 11 by decide)]
      exact cont g w ho (Mea_far x.t12 me)
    | succ m ih =>
      intro r u g hr w ho me
      rw [g104_20u, show (11 : Int32) = nI 11 by decide, if_neg (nI_ge (by omega) (by omega))]
      exact p104i X h x op Q r (by omega) (fun g w ho me => ih (r + 1) _ g (by omega) w ho (Mea_nx me)) c 0 g (by omega) w ho me
  refine key 11 0 none _ rfl (Wr_sI (Wr_sF w (fun _ => m00)) m00) (fun s hs => by rw [hg_ne _ (by decide), hg_sFn _ (by decide)]; exact ho s hs) ?_
  intro v hv
  by_cases e : v = 11
  · subst e
    refine ⟨0, by omega, hg_eq _ _ _ _, fun _ => rfl, fun k _ _ => by omega, fun j hj => absurd hj (Nat.not_lt_zero _)⟩
  · refine ⟨1000, by omega, by rw [hg_nj _ e, hg_sF, if_pos ⟨rfl, by omega, by omega⟩]; exact e1000, fun z => by omega, ?_, fun j hj => absurd hj (Nat.not_lt_zero _)⟩
    intro k hk rb
    obtain rfl : k = 0 := by omega
    exact absurd rb e
theorem nx_eq {c : Nat} {op : Nat → Bool} {fr to : Nat → Nat} {k v s : Nat} (d : Ds (Ed c op fr to) (k + 1) v) (h1 : nxB (Ed c op fr to) op fr to k v s = true) (h2 : ∀ j, j < s → nxB (Ed c op fr to) op fr to k v j = false) : nx c op fr to k v = s := by
  obtain ⟨a1, a2, a3⟩ := nx_is d
  rcases Nat.lt_trichotomy (nx c op fr to k v) s with z | z | z
  · rw [h2 _ z] at a2; cases a2
  · exact z
  · rw [a3 _ z] at h1; cases h1
theorem x1000 : ∀ k, k ≤ 11 → ¬ (1000 : Int32) = nI k := fun k hk => by
  rw [e1000, nI_eq (by omega) (by omega)]; omega
theorem p106 (X : XS) (g : H2) {cl : Nat} {ad : Nat → Nat} {c : Nat} {fr to : Nat → Nat} (y : WyC g cl ad c fr to) (op : Nat → Bool) (Q : Option Value → H2 → Prop) (ho : ∀ s, s < c → hg g 26 s = bz (op s)) (fa : Far (Ed c op fr to) (fun v => hg g 27 v) 1000) (k v : Nat) (hv : v < 12) (d : Ds (Ed c op fr to) (k + 1) v) (hQ : Q (some (.int (nI (nx c op fr to k v)))) g) : EC X 106 [.ref 19, .int (nI v)] g Q := by
  have c24 := y.c24
  have hk : k + 1 ≤ 11 := Ds_11 (Ed_12 y.t12) hv d
  have key : ∀ m s, s + m = c → (∀ j, j < s → nxB (Ed c op fr to) op fr to k v j = false) → E X 106 2 [some (.ref 19), some (.int (nI v)), some (.int (nI s))] [] g Q := by
    intro m
    induction m with
    | zero =>
      intro s hs hj
      obtain ⟨a1, a2, a3⟩ := nx_is d
      rw [hj _ (by omega)] at a2
      cases a2
    | succ m ih =>
      intro s hs hj
      have hsc : s < c := by omega
      have t12 := y.t12 s hsc
      have b2 := bI s 24 (by omega) (by omega)
      have no : nxB (Ed c op fr to) op fr to k v s = false → E X 106 2 [some (.ref 19), some (.int (nI v)), some (.int (nI (s + 1)))] [] g Q := fun z => ih (s + 1) (by omega) (fun j hj' => by
        by_cases ej : j = s
        · subst ej; exact z
        · exact hj j (by omega))
      have tv : hg g 27 v = nI (k + 1) := (Far_is fa x1000 hv hk).mpr d
      rw [g106_2, y.c1, if_neg (nI_ge hsc (by omega)), nI_clamp (show s < 2 ^ 31 by omega), if_neg b2, ho s hsc, nI_1, if_neg b2, if_neg b2, y.r20 s hsc, y.r21 s hsc, nI_clamp (show v < 2 ^ 31 by omega), nI_clamp (show to s < 2 ^ 31 by omega), if_neg (bI (to s) 12 t12 (by omega)), if_neg (bI v 12 hv (by omega)), tv, nI_pred]
      by_cases q1 : op s = true
      · rw [if_neg (fun z => (bz_0 _).mp z q1)]
        have f12 := y.f12 s hsc
        by_cases q2 : fr s = v
        · rw [if_neg (show ¬ ¬ nI (fr s) = nI v from fun z => z (by rw [q2]))]
          by_cases q3 : Ds (Ed c op fr to) k (to s)
          · rw [if_neg (show ¬ ¬ hg g 27 (to s) = nI k from fun z => z ((Far_is fa x1000 t12 (by omega)).mpr q3)), ← nx_eq d (nxB_t.mpr ⟨q1, q2, q3⟩) hj]
            exact hQ
          · rw [if_pos (show ¬ hg g 27 (to s) = nI k from fun z => q3 ((Far_is fa x1000 t12 (by omega)).mp z))]
            refine no ?_
            cases q : nxB (Ed c op fr to) op fr to k v s with
            | true => exact absurd (nxB_t.mp q).2.2 q3
            | false => rfl
        · rw [if_pos (show ¬ nI (fr s) = nI v from fun z => q2 ((nI_eq (by omega) (by omega)).mp z))]
          refine no ?_
          cases q : nxB (Ed c op fr to) op fr to k v s with
          | true => exact absurd (nxB_t.mp q).2.1 q2
          | false => rfl
      · rw [if_pos ((bz_0 _).mpr q1)]
        refine no ?_
        cases q : nxB (Ed c op fr to) op fr to k v s with
        | true => exact absurd (nxB_t.mp q).1 q1
        | false => rfl
  rw [g106]
  exact key c 0 (by omega) (fun j hj => absurd hj (Nat.not_lt_zero _))
/-- the places on the way -/
noncomputable def stn (c : Nat) (op : Nat → Bool) (fr to : Nat → Nat) (D : Nat) : Nat → Nat
  | 0 => 0
  | k + 1 => to (nx c op fr to (D - 1 - k) (stn c op fr to D k))
noncomputable def prt (c : Nat) (op : Nat → Bool) (fr to : Nat → Nat) (D k : Nat) : Nat := nx c op fr to (D - 1 - k) (stn c op fr to D k)
theorem stn_is {c : Nat} {op : Nat → Bool} {fr to : Nat → Nat} {D : Nat} (h12 : ∀ s, s < c → to s < 12) (d : Ds (Ed c op fr to) D 0) : ∀ k, k ≤ D → stn c op fr to D k < 12 ∧ Ds (Ed c op fr to) (D - k) (stn c op fr to D k) := by
  intro k
  induction k with
  | zero => intro _; exact ⟨by show 0 < 12; omega, d⟩
  | succ k ih =>
    intro hk
    obtain ⟨a1, a2⟩ := ih (by omega)
    have a2' : Ds (Ed c op fr to) (D - 1 - k + 1) (stn c op fr to D k) := by rw [show D - 1 - k + 1 = D - k by omega]; exact a2
    obtain ⟨n1, n2, -⟩ := nx_is a2'
    refine ⟨h12 _ n1, ?_⟩
    rw [show D - (k + 1) = D - 1 - k by omega]
    exact (nxB_t.mp n2).2.2
theorem p105 (X : XS) (h : H2) {cl : Nat} {ad : Nat → Nat} {c : Nat} {fr to : Nat → Nat} (x : WyC h cl ad c fr to) (op : Nat → Bool) (Q : Option Value → H2 → Prop) (D : Nat) (d : Ds (Ed c op fr to) D 0) (cont : ∀ g, Wr [0] h g → (∀ i, i < D → hg g 28 i = nI (prt c op fr to D i)) → Q none g) (g : H2) (w : Wr [0] h g) (ho : ∀ s, s < c → hg g 26 s = bz (op s)) (fa : Far (Ed c op fr to) (fun v => hg g 27 v) 1000) : EC X 105 [.ref 19, .int (nI D)] g Q := by
  have c24 := x.c24
  have hD : D ≤ 11 := Ds_11 (Ed_12 x.t12) (by omega) d
  have key : ∀ m k u g, k + m = D → Wr [0] h g → (∀ s, s < c → hg g 26 s = bz (op s)) → Far (Ed c op fr to) (fun v => hg g 27 v) 1000 → (∀ i, i < k → hg g 28 i = nI (prt c op fr to D i)) → E X 105 4 [some (.ref 19), some (.int (nI D)), some (.int (nI (stn c op fr to D k))), some (.int (nI k)), u] [] g Q := by
    intro m
    induction m with
    | zero =>
      intro k u g hk w ho fa hr
      obtain rfl : k = D := by omega
      rw [g105_4, if_pos (nI_le (Nat.le_refl _) (by omega))]
      exact cont g w hr
    | succ m ih =>
      intro k u g hk w ho fa hr
      obtain ⟨s1, s2⟩ := stn_is x.t12 d k (by omega)
      have s2' : Ds (Ed c op fr to) (D - 1 - k + 1) (stn c op fr to D k) := by rw [show D - 1 - k + 1 = D - k by omega]; exact s2
      have n1 := (nx_is s2').1
      rw [g105_4, if_neg (nI_ge (by omega) (by omega)), if_neg (show ¬ Int32.ofNat 11 ≤ nI k from nI_ge (a := k) (b := 11) (by omega) (by omega))]
      show EC X 106 _ _ _
      refine p106 X g (WyC_W x w) op _ ho fa (D - 1 - k) _ s1 s2' ?_
      rw [rI_i]
      dsimp only
      rw [if_pos (nI_m9 (by omega)), nI_clamp (by omega), if_neg (bI k 11 (by omega) (by omega)), nI_clamp (show nx c op fr to (D - 1 - k) (stn c op fr to D k) < 2 ^ 31 by omega), if_neg (bI _ 24 (by omega) (by omega)), nI_1, (WyC_W x w).r21 _ n1]
      refine ih (k + 1) _ _ (by omega) (Wr_sI w m00) (fun s hs => by rw [hg_ne _ (by decide)]; exact ho s hs) ?_ ?_
      · intro v hv
        show (∃ t, t ≤ 11 ∧ _ ∧ hg (sI g 28 k _) 27 v = nI t) ∨ (_ ∧ hg (sI g 28 k _) 27 v = 1000)
        rw [hg_ne _ (by decide)]
        exact fa v hv
      · intro i hi
        by_cases e : i = k
        · subst e; rw [hg_eq]; rfl
        · rw [hg_nj _ e]; exact hr i (by omega)
  rw [g105]
  exact key D 0 none g (by omega) w ho fa (fun i hi => absurd hi (Nat.not_lt_zero _))
theorem p103a (X : XS) (h : H2) {cl : Nat} {ad : Nat → Nat} {c : Nat} {fr to : Nat → Nat} (x : WyC h cl ad c fr to) (d : Int32) (op : Nat → Bool) (hop : ∀ s, op s = opB h cl d s) (Q : Option Value → H2 → Prop) (c0 : (∀ n, ¬ Rb (Ed c op fr to) n 0) → ∀ g, Wr [0] h g → Q (some (.int (-9))) g) (c1 : ∀ D, D ≤ 11 → Ds (Ed c op fr to) D 0 → ∀ g, Wr [0] h g → (∀ i, i < D → hg g 28 i = nI (prt c op fr to D i)) → Q (some (.int (nI D))) g) : EC X 103 [.ref 19, .ref 17, .int d] h Q := by
  rw [g103]
  refine p103 X h x d Q ?_ c 0 h (by omega) (Wr_refl _ _) (fun s hs => absurd hs (Nat.not_lt_zero _))
  intro g w ho
  show EC X 104 _ _ _
  refine p104 X h x op _ g w (fun s hs => by rw [ho s hs, hop]) ?_
  intro g w ho fa
  rw [rV_n]
  rcases fa 0 (by omega) with ⟨D, hD, ds, q⟩ | ⟨no, q⟩
  · have q' : hg g 27 0 = nI D := q
    rw [q', if_pos (fun z => x1000 D hD z.symm)]
    show EC X 105 _ _ _
    refine p105 X h x op _ D ds ?_ g w ho fa
    intro g' w' hr
    rw [rV_n]
    exact c1 D hD ds g' w' hr
  · have q' : hg g 27 0 = 1000 := q
    rw [q', if_neg (fun z => z rfl)]
    exact c0 no g w
