def upF (r : Nat → Int32) (i : Nat) (x : Int32) : Nat → Int32 := fun j => if j = i then x else r j
theorem upF_e (r : Nat → Int32) (i : Nat) (x : Int32) : upF r i x i = x := if_pos rfl
theorem upF_n {r : Nat → Int32} {i j : Nat} {x : Int32} (h : j ≠ i) : upF r i x j = r j := if_neg h
theorem dH_su (g : H2) (a p : Nat) (r : Nat → Int32) (i : Nat) (x : Int32) : sI (dH g a p r) a i x = dH g a p (upF r i x) := dH_sa g a p r i x
theorem dH_1 (g : H2) (a p : Nat) (r : Nat → Int32) : (dH g a p r).1 = g.1 := rfl
def lx (f : Nat → Int32) (n : Nat) : Nat → Nat → Int32 → Nat × Option Int32
  | 0, p, s => (p, if p = n then some s else none)
  | i + 1, p, s => if p = n then (p, some s) else match on1 4 4 (cdx f n p) with
    | none => (p, none)
    | some c => if bt s c = true then (p, none) else lx f n i (p + 1) (s ||| bit c)
def st4 (f : Nat → Int32) (n p : Nat) : Nat × Option Int32 := if p = n then (p, some 0) else if cdx f n p = 33 then (match on1 4 4 (cdx f n (p + 1)) with
    | none => (p + 1, none)
    | some c => lx f n 3 (p + 2) (0 ||| bit c)) else (p, none)
def st3 (f : Nat → Int32) (n p : Nat) : Nat × Option (Nat × Nat) := if cdx f n p = 64 then (match pNm f n (p + 1) with
    | (q, none) => (q, none)
    | (q, some fr) => if cdx f n q = 45 then (match pNm f n (q + 1) with
      | (q2, none) => (q2, none)
      | (q2, some t) => (q2, some (fr, t))) else (q, none)) else (p, none)
def st2 (f : Nat → Int32) (n p : Nat) : Nat × Option Int32 := if cdx f n p = 62 then (match pNm f n (p + 1) with
    | (q, none) => (q, none)
    | (q, some x) => (q, some (nI x))) else (p, some (-9))
def rowV (v k : Nat) (ab : Int32) (fr t : Nat) (s : Int32) : Nat → Int32
  | 0 => nI v
  | 1 => nI k
  | 2 => ab
  | 3 => nI fr
  | 4 => nI t
  | 5 => s
  | _ => -9
def prs (f : Nat → Int32) (n : Nat) : Nat × Option (Nat → Int32) := match on1 1 4 (cdx f n 0) with
  | none => (0, none)
  | some v => match on1 2 5 (cdx f n 1) with
    | none => (1, none)
    | some k => match st2 f n 2 with
      | (q, none) => (q, none)
      | (q, some ab) => match st3 f n q with
        | (q2, none) => (q2, none)
        | (q2, some (fr, t)) => match st4 f n q2 with
          | (q3, none) => (q3, none)
          | (q3, some s) => (q3, some (rowV v k ab fr t s))
theorem cdx_n {f : Nat → Int32} {n p : Nat} {c : Int32} (hc : ¬ c = -9) (h : cdx f n p = c) : p < n := by
  unfold cdx at h
  by_cases q : p < n
  · exact q
  · rw [if_neg q] at h
    exact absurd h.symm hc
theorem bit0 (r : Int32) {c : Nat} (hc : c < 32) : ((r >>> (nI c &&& 31)) &&& 1 = 0) ↔ ¬ bt r c = true := by
  rw [bt_shr r hc]
  by_cases e : bt r c = true
  · rw [if_pos e]
    exact ⟨fun z => absurd z (by decide), fun z => absurd e z⟩
  · rw [if_neg e]
    exact ⟨fun _ => e, fun _ => rfl⟩
theorem e72 (X : XS) (Q : Option Value → H2 → Prop) (g : H2) (f : Nat → Int32) (n a : Nat) (ha : 137 ≤ a) (hg1 : a < g.1) (ok : RdOk g f n) (p : Nat) (r : Nat → Int32) (hp : p ≤ n) : EC X 72 [.ref 15, .ref a] (dH g a p r) Q ↔ (match on1 4 4 (cdx f n p) with
    | none => Q (some (.int 0)) (dH g a p r)
    | some c => if bt (r 5) c = true then Q (some (.int 0)) (dH g a p r) else Q (some (.int 1)) (dH g a (p + 1) (upF r 5 (r 5 ||| bit c)))) := by
  have okl := okL X.1 ha hg1
  rw [g72]
  show EC X 75 _ _ _ ↔ _
  rw [e75 X _ g f n a p r ha ok hp 4 4 (by omega) (by omega) (by omega) rfl tb4, rI_i]
  dsimp only
  cases h1 : on1 4 4 (cdx f n p) with
  | none =>
    rw [if_neg (fun z => z rfl)]
    exact Iff.rfl
  | some c =>
    have l1 := on1_lt h1
    rw [if_pos (show ¬ oN (some c) = -9 from nI_m9 (by omega))]
    show (bif okT X.1 137 (dH g a (p + 1) r).1 a 7 then (if ((hg (dH g a (p + 1) r) a 5) >>> (nI c &&& 31)) &&& 1 = 0 then (bif okT X.1 137 (dH g a (p + 1) r).1 a 7 then (bif okT X.1 137 (dH g a (p + 1) r).1 a 7 then Q (some (.int 1)) (sI (dH g a (p + 1) r) a 5 (hg (dH g a (p + 1) r) a 5 ||| ((1 : Int32) <<< (nI c &&& 31)))) else False) else False) else Q (some (.int 0)) (sI (dH g a (p + 1) r) 15 2 (hg (dH g a p r) 15 2))) else False) ↔ _
    rw [dH_1, okl, dH_a, dH_p _ _ _ ha, dH_sp _ _ _ _ ha, dH_su]
    show (if (r 5 >>> (nI c &&& 31)) &&& 1 = 0 then Q (some (.int 1)) (dH g a (p + 1) (upF r 5 (r 5 ||| bit c))) else Q (some (.int 0)) (dH g a p r)) ↔ (if bt (r 5) c = true then Q (some (.int 0)) (dH g a p r) else Q (some (.int 1)) (dH g a (p + 1) (upF r 5 (r 5 ||| bit c))))
    by_cases e : bt (r 5) c = true
    · rw [if_pos e, if_neg (fun z => (bit0 (r 5) (by omega)).mp z e)]
    · rw [if_neg e, if_pos ((bit0 (r 5) (by omega)).mpr e)]
theorem e71l (X : XS) (Q : Option Value → H2 → Prop) (g : H2) (f : Nat → Int32) (n a : Nat) (ha : 137 ≤ a) (hg1 : a < g.1) (ok : RdOk g f n) : ∀ i k p (r : Nat → Int32), k + i = 4 → p ≤ n → (∀ s, (lx f n i p (r 5)).2 = some s → Q (some (.int 1)) (dH g a (lx f n i p (r 5)).1 (upF r 5 s))) → ((lx f n i p (r 5)).2 = none → ∀ r', Q (some (.int 0)) (dH g a (lx f n i p (r 5)).1 r')) → E X 71 36 [some (.ref 15), some (.ref a), some (.int 1), some (.int (nI k))] [] (dH g a p r) Q := by
  have e4 : Int32.ofNat 4 = nI 4 := rfl
  have hn := ok.1
  have r5 : ∀ (r : Nat → Int32), upF r 5 (r 5) = r := by
    intro r
    funext j
    by_cases e : j = 5
    · subst e; exact upF_e _ _ _
    · exact upF_n e
  have q1 : ∀ p r, hg (dH g a p r) 15 1 = nI n := fun p r => by rw [dH_o _ _ _ _ _ _ (by omega) (by decide), ok.2.1]
  intro i
  induction i with
  | zero =>
    intro k p r hk hp hs hn0
    have : k = 4 := by omega
    subst this
    rw [g71_36, e4, if_pos (nI_le (Nat.le_refl _) (by omega)), q1, dH_p _ _ _ ha]
    unfold lx at hs hn0
    by_cases e : p = n
    · rw [if_neg (fun z => z (by rw [e]))]
      have := hs (r 5) (if_pos e)
      rw [r5] at this
      exact this
    · rw [if_pos (fun z => e ((nI_eq (by omega) (by omega)).mp z))]
      exact hn0 (if_neg e) r
  | succ i ih =>
    intro k p r hk hp hs hn0
    rw [g71_36, e4, if_neg (nI_ge (by omega) (by omega)), if_neg n1_0]
    show EC X 72 _ _ _
    rw [e72 X _ g f n a ha hg1 ok p r hp]
    unfold lx at hs hn0
    -- when it goes no further
    have stop : ∀ k', (if p = n then Q (some (.int 1)) (dH g a p r) else Q (some (.int 0)) (dH g a p r)) → E X 71 36 [some (.ref 15), some (.ref a), some (.int 0), some (.int k')] [] (dH g a p r) Q := by
      intro k' hh
      rw [g71_36, q1, dH_p _ _ _ ha, if_pos (show (0 : Int32) = 0 from rfl), ite_self]
      by_cases e : p = n
      · rw [if_pos e] at hh
        rw [if_neg (fun z => z (by rw [e]))]
        exact hh
      · rw [if_neg e] at hh
        rw [if_pos (fun z => e ((nI_eq (by omega) (by omega)).mp z))]
        exact hh
    cases h1 : on1 4 4 (cdx f n p) with
    | none =>
      show E X 71 36 _ [] (dH g a p r) Q
      apply stop
      by_cases e : p = n
      · rw [if_pos e]
        rw [if_pos e] at hs
        have := hs (r 5) rfl
        rw [r5] at this
        exact this
      · rw [if_neg e]
        rw [if_neg e, h1] at hn0
        exact hn0 rfl r
    | some c =>
      have lt := on1_n tb4 h1
      have ne : ¬ p = n := by omega
      rw [if_neg ne, h1] at hs hn0
      dsimp only at hs hn0 ⊢
      by_cases b : bt (r 5) c = true
      · rw [if_pos b] at hs hn0 ⊢
        show E X 71 36 _ [] (dH g a p r) Q
        apply stop
        rw [if_neg ne]
        exact hn0 rfl r
      · rw [if_neg b] at hs hn0 ⊢
        show E X 71 36 [some (.ref 15), some (.ref a), some (.int 1), some (.int (nI k + 1))] [] (dH g a (p + 1) (upF r 5 (r 5 ||| bit c))) Q
        rw [nI_1]
        have u5 : upF r 5 (r 5 ||| bit c) 5 = r 5 ||| bit c := upF_e _ _ _
        have uu : ∀ s, upF (upF r 5 (r 5 ||| bit c)) 5 s = upF r 5 s := by
          intro s
          funext j
          by_cases e : j = 5
          · subst e; rw [upF_e, upF_e]
          · rw [upF_n e, upF_n e, upF_n e]
        refine ih (k + 1) (p + 1) (upF r 5 (r 5 ||| bit c)) (by omega) (by omega) ?_ ?_
        · intro s z
          rw [u5] at z ⊢
          rw [uu]
          exact hs s z
        · intro z r'
          rw [u5] at z ⊢
          exact hn0 z r'
theorem e71 (X : XS) (Q : Option Value → H2 → Prop) (g : H2) (f : Nat → Int32) (n a : Nat) (ha : 137 ≤ a) (hg1 : a < g.1) (ok : RdOk g f n) (p : Nat) (r : Nat → Int32) (hp : p ≤ n) (h5 : r 5 = 0) (hs : ∀ s, (st4 f n p).2 = some s → Q (some (.int 1)) (dH g a (st4 f n p).1 (upF r 5 s))) (hn0 : (st4 f n p).2 = none → ∀ r', Q (some (.int 0)) (dH g a (st4 f n p).1 r')) : EC X 71 [.ref 15, .ref a] (dH g a p r) Q := by
  have hn := ok.1
  have q1 : ∀ p r, hg (dH g a p r) 15 1 = nI n := fun p r => by rw [dH_o _ _ _ _ _ _ (by omega) (by decide), ok.2.1]
  rw [g71, q1, dH_p _ _ _ ha]
  unfold st4 at hs hn0
  by_cases e : p = n
  · rw [if_neg (fun z => z (by rw [e]))]
    rw [if_pos e] at hs
    have := hs 0 rfl
    have r5 : upF r 5 0 = r := by
      funext j
      by_cases e : j = 5
      · subst e; rw [upF_e, h5]
      · exact upF_n e
    rw [r5] at this
    exact this
  · rw [if_pos (fun z => e ((nI_eq (by omega) (by omega)).mp z))]
    rw [if_neg e] at hs hn0
    show EC X 74 _ _ _
    rw [e74 X _ g f n a p r ha ok hp 33 (by decide)]
    by_cases c : cdx f n p = 33
    · rw [if_pos c] at hs hn0 ⊢
      have lt := cdx_n (by decide) c
      rw [rI_i]
      dsimp only
      rw [if_neg n1_0]
      show EC X 72 _ _ _
      rw [e72 X _ g f n a ha hg1 ok (p + 1) r (by omega)]
      cases h1 : on1 4 4 (cdx f n (p + 1)) with
      | none =>
        rw [h1] at hs hn0
        dsimp only
        rw [rI_i, if_neg (fun z => z rfl)]
        exact hn0 rfl r
      | some c =>
        have lt1 := on1_n tb4 h1
        rw [h1] at hs hn0
        dsimp only at hs hn0 ⊢
        have l1 := on1_lt h1
        rw [if_neg (by rw [h5, b_0]; decide), rI_i, if_pos n1_0]
        have u5 : upF r 5 (r 5 ||| bit c) 5 = 0 ||| bit c := by rw [upF_e, h5]
        have uu : ∀ s, upF (upF r 5 (r 5 ||| bit c)) 5 s = upF r 5 s := by
          intro s
          funext j
          by_cases e : j = 5
          · subst e; rw [upF_e, upF_e]
          · rw [upF_n e, upF_n e, upF_n e]
        refine e71l X Q g f n a ha hg1 ok 3 1 (p + 2) (upF r 5 (r 5 ||| bit c)) (by omega) (by omega) ?_ ?_
        · intro s z
          rw [u5] at z ⊢
          rw [uu]
          exact hs s z
        · intro z r'
          rw [u5] at z ⊢
          exact hn0 z r'
    · rw [if_neg c] at hs hn0 ⊢
      rw [rI_i]
      dsimp only
      rw [if_pos rfl]
      exact hn0 rfl r
theorem e70 (X : XS) (Q : Option Value → H2 → Prop) (g : H2) (f : Nat → Int32) (n a : Nat) (ha : 137 ≤ a) (hg1 : a < g.1) (ok : RdOk g f n) (p : Nat) (r : Nat → Int32) (hp : p ≤ n) (hs : ∀ fr t, (st3 f n p).2 = some (fr, t) → Q (some (.int 1)) (dH g a (st3 f n p).1 (upF (upF r 3 (nI fr)) 4 (nI t)))) (hn0 : (st3 f n p).2 = none → ∀ r', Q (some (.int 0)) (dH g a (st3 f n p).1 r')) : EC X 70 [.ref 15, .ref a] (dH g a p r) Q := by
  have okl := okL X.1 ha hg1
  rw [g70]
  show EC X 74 _ _ _
  rw [e74 X _ g f n a p r ha ok hp 64 (by decide)]
  unfold st3 at hs hn0
  by_cases c : cdx f n p = 64
  · rw [if_pos c] at hs hn0 ⊢
    have lt := cdx_n (by decide) c
    rw [rI_i]
    dsimp only
    rw [if_pos n1_0]
    show EC X 73 _ _ _
    rw [e73 X _ g f n a (p + 1) r ha ok (by omega), rI_i]
    have l1 := pNm_le (f := f) (n := n) (p := p + 1) (by omega)
    have v1 := @pNm_v f n (p + 1)
    dsimp only
    rw [dH_1, okl]
    generalize pNm f n (p + 1) = P1 at *
    obtain ⟨q, o⟩ := P1
    dsimp only at hs hn0 l1 v1 ⊢
    show (if hg (sI (dH g a q r) a 3 (oN o)) a 3 = -9 then _ else _)
    rw [hg_eq, dH_su]
    cases o with
    | none =>
      rw [if_pos (show oN none = -9 from rfl)]
      exact hn0 rfl _
    | some fr =>
      have v2 := v1 rfl
      rw [if_neg (show ¬ oN (some fr) = -9 from nI_m9 (by omega))]
      show EC X 74 _ _ _
      rw [e74 X _ g f n a q _ ha ok l1 45 (by decide)]
      dsimp only at hs hn0
      by_cases c2 : cdx f n q = 45
      · rw [if_pos c2] at hs hn0 ⊢
        have lt2 := cdx_n (by decide) c2
        rw [rI_i]
        dsimp only
        rw [if_pos n1_0]
        show EC X 73 _ _ _
        rw [e73 X _ g f n a (q + 1) _ ha ok (by omega), rI_i]
        have v3 := @pNm_v f n (q + 1)
        dsimp only
        rw [dH_1, okl]
        generalize pNm f n (q + 1) = P2 at *
        obtain ⟨q2, o2⟩ := P2
        dsimp only at hs hn0 v3 ⊢
        show (if hg (sI (dH g a q2 (upF r 3 (oN (some fr)))) a 4 (oN o2)) a 4 = -9 then _ else _)
        rw [hg_eq, dH_su]
        cases o2 with
        | none =>
          rw [if_pos (show oN none = -9 from rfl)]
          exact hn0 rfl _
        | some t =>
          have v4 := v3 rfl
          rw [if_neg (show ¬ oN (some t) = -9 from nI_m9 (by omega))]
          exact hs fr t rfl
      · rw [if_neg c2] at hs hn0 ⊢
        rw [rI_i]
        dsimp only
        rw [if_neg (fun z => z rfl)]
        exact hn0 rfl _
  · rw [if_neg c] at hs hn0 ⊢
    rw [rI_i]
    dsimp only
    rw [if_neg (fun z => z rfl)]
    exact hn0 rfl _
theorem e69 (X : XS) (Q : Option Value → H2 → Prop) (g : H2) (f : Nat → Int32) (n a : Nat) (ha : 137 ≤ a) (hg1 : a < g.1) (ok : RdOk g f n) (p : Nat) (r : Nat → Int32) (hp : p ≤ n) (h2 : r 2 = -9) (hs : ∀ x, (st2 f n p).2 = some x → Q (some (.int 1)) (dH g a (st2 f n p).1 (upF r 2 x))) (hn0 : (st2 f n p).2 = none → ∀ r', Q (some (.int 0)) (dH g a (st2 f n p).1 r')) : EC X 69 [.ref 15, .ref a] (dH g a p r) Q := by
  have okl := okL X.1 ha hg1
  rw [g69]
  show EC X 74 _ _ _
  rw [e74 X _ g f n a p r ha ok hp 62 (by decide)]
  unfold st2 at hs hn0
  by_cases c : cdx f n p = 62
  · rw [if_pos c] at hs hn0 ⊢
    have lt := cdx_n (by decide) c
    rw [rI_i]
    dsimp only
    rw [if_pos n1_0]
    show EC X 73 _ _ _
    rw [e73 X _ g f n a (p + 1) r ha ok (by omega), rI_i]
    have v1 := @pNm_v f n (p + 1)
    dsimp only
    rw [dH_1, okl]
    generalize pNm f n (p + 1) = P1 at *
    obtain ⟨q, o⟩ := P1
    dsimp only at hs hn0 v1 ⊢
    show (if hg (sI (dH g a q r) a 2 (oN o)) a 2 = -9 then _ else _)
    rw [hg_eq, dH_su]
    cases o with
    | none =>
      rw [if_pos (show oN none = -9 from rfl)]
      exact hn0 rfl _
    | some x =>
      have v2 := v1 rfl
      rw [if_neg (show ¬ oN (some x) = -9 from nI_m9 (by omega))]
      exact hs _ rfl
  · rw [if_neg c] at hs hn0 ⊢
    rw [rI_i]
    dsimp only
    rw [if_neg (fun z => z rfl)]
    have := hs (-9) rfl
    have r5 : upF r 2 (-9) = r := by
      funext j
      by_cases e : j = 2
      · subst e; rw [upF_e, h2]
      · exact upF_n e
    rw [r5] at this
    exact this
theorem e68 (X : XS) (Q : Option Value → H2 → Prop) (g : H2) (f : Nat → Int32) (n a : Nat) (ha : 137 ≤ a) (hg1 : a < g.1) (ok : RdOk g f n) (r : Nat → Int32) (hv : on1 1 4 (cdx f n 0) = none → ∀ r', Q (some (.int 0)) (dH g a 0 r')) (hk : ∀ v, on1 1 4 (cdx f n 0) = some v → on1 2 5 (cdx f n 1) = none → ∀ r', Q (some (.int 0)) (dH g a 1 r')) (hs : ∀ v k, on1 1 4 (cdx f n 0) = some v → on1 2 5 (cdx f n 1) = some k → Q (some (.int 1)) (dH g a 2 (upF (upF r 0 (nI v)) 1 (nI k)))) : EC X 68 [.ref 15, .ref a] (dH g a 0 r) Q := by
  have okl := okL X.1 ha hg1
  rw [g68]
  show EC X 75 _ _ _
  rw [e75 X _ g f n a 0 r ha ok (by omega) 1 4 (by omega) (by omega) (by omega) rfl tb1, rI_i]
  dsimp only
  rw [dH_1, okl]
  cases h1 : on1 1 4 (cdx f n 0) with
  | none =>
    show (if ¬ hg (sI (dH g a 0 r) a 0 (-9)) a 0 = -9 then _ else _)
    rw [hg_eq, if_neg (fun z => z rfl), dH_su]
    exact hv h1 _
  | some v =>
    have b1 := on1_lt h1
    have lt := on1_n tb1 h1
    show (if ¬ hg (sI (dH g a 1 r) a 0 (nI v)) a 0 = -9 then _ else _)
    rw [hg_eq, if_pos (nI_m9 (by omega)), dH_su]
    show EC X 75 _ (dH g a 1 (upF r 0 (nI v))) _
    rw [e75 X _ g f n a 1 _ ha ok (by omega) 2 5 (by omega) (by omega) (by omega) rfl tb2, rI_i]
    dsimp only
    rw [dH_1, okl]
    cases h2 : on1 2 5 (cdx f n 1) with
    | none =>
      show (if hg (sI (dH g a 1 (upF r 0 (nI v))) a 1 (-9)) a 1 = -9 then _ else _)
      rw [hg_eq, if_pos rfl, dH_su]
      exact hk v h1 h2 _
    | some k =>
      have b2 := on1_lt h2
      show (if hg (sI (dH g a 2 (upF r 0 (nI v))) a 1 (nI k)) a 1 = -9 then _ else _)
      rw [hg_eq, if_neg (nI_m9 (by omega)), dH_su]
      exact hs v k h1 h2
theorem st2_le {f : Nat → Int32} {n p : Nat} (hp : p ≤ n) : (st2 f n p).1 ≤ n := by
  unfold st2
  by_cases c : cdx f n p = 62
  · rw [if_pos c]
    have lt := cdx_n (by decide) c
    have := pNm_le (f := f) (n := n) (p := p + 1) (by omega)
    generalize pNm f n (p + 1) = P at *
    obtain ⟨q, o⟩ := P
    cases o <;> exact this
  · rw [if_neg c]; exact hp
theorem st3_le {f : Nat → Int32} {n p : Nat} (hp : p ≤ n) : (st3 f n p).1 ≤ n := by
  unfold st3
  by_cases c : cdx f n p = 64
  · rw [if_pos c]
    have lt := cdx_n (by decide) c
    have := pNm_le (f := f) (n := n) (p := p + 1) (by omega)
    generalize pNm f n (p + 1) = P at *
    obtain ⟨q, o⟩ := P
    cases o with
    | none => exact this
    | some fr =>
      dsimp only at this ⊢
      by_cases c2 : cdx f n q = 45
      · rw [if_pos c2]
        have lt2 := cdx_n (by decide) c2
        have := pNm_le (f := f) (n := n) (p := q + 1) (by omega)
        generalize pNm f n (q + 1) = P2 at *
        obtain ⟨q2, o2⟩ := P2
        cases o2 <;> exact this
      · rw [if_neg c2]; exact this
  · rw [if_neg c]; exact hp
/-- readLine -/
theorem e67 (X : XS) (h : H2) (Q : Option Value → H2 → Prop) (n : Nat) (hn : n ≤ 60) (sz : 137 ≤ h.1) (fz : ∀ i, hg h h.1 i = 0) (f : Nat → Int32) (hf : ∀ j, j < n → hg h 14 j = f j) (g : H2) (eg : g = hN (sC (sI h 15 1 (nI n)) 16 14 0 0 n) 1)
    (hs : ∀ q V, prs f n = (q, some V) → ∀ r', (∀ i, i < 7 → r' i = V i) → Q (some (.ref h.1)) (dH g h.1 q r')) (hn0 : ∀ q, prs f n = (q, none) → ∀ r', Q (some .null) (dH g h.1 q r')) : EC X 67 [.ref 15, .ref 14, .int (nI n)] h Q := by
  have e60 : Int32.ofNat 60 = nI 60 := rfl
  have hk : (nI n).toNatClampNeg = n := nI_clamp (by omega)
  have c0 : (0 : Int32).toNatClampNeg = 0 := by decide
  have z0 : ¬ (0 : Int32) < 0 := by decide
  have m1 : (if nI 60 < nI 60 then nI 60 else nI 60) = nI 60 := ite_self _
  have m2 : (if nI 60 < nI n then nI 60 else nI n) = nI n := by
    rw [if_neg (nI_nlt (by omega) (by omega))]
  have bb : ¬ (((0 : Int32) < 0 ∨ (0 : Int32) < 0 ∨ nI n < 0) ∨ 60 < 0 + n ∨ 60 < 0 + n) := by
    rintro ((z | z | z) | z | z)
    · exact z0 z
    · exact z0 z
    · exact nI_pos (by omega) z
    · omega
    · omega
  have sh : Nat.beq (shT X.1 h.1).1 7 = true := by
    have e : shT X.1 h.1 = (7, 7) := by
      unfold shT
      have b1 : Nat.beq h.1 0 = false := by
        cases hh : Nat.beq h.1 0 with
        | false => rfl
        | true => have := Nat.eq_of_beq_eq_true hh; omega
      have b2 : Nat.blt h.1 137 = false := by
        cases hh : Nat.blt h.1 137 with
        | false => rfl
        | true => have := Nat.blt_eq.mp hh; omega
      rw [b1, b2]
      rfl
    rw [e]
    rfl
  have hg1 : h.1 < g.1 := by
    rw [eg]
    show h.1 < h.1 + 1
    omega
  have okl := okL X.1 sz hg1
  have hgN : ∀ (k : H2) b j, hg (hN k 1) b j = hg k b j := fun k b j => rfl
  have ok : RdOk g f n := by
    refine ⟨hn, ?_, ?_⟩
    · rw [eg, hgN, hg_sCn _ (by decide), hg_eq]
    · intro j hj
      rw [eg, hgN, hg_sC, if_pos ⟨rfl, by omega, by omega⟩, hg_ne _ (by decide)]
      rw [show 0 + (j - 0) = j by omega]
      exact hf j hj
  rw [g67]
  simp only [e60, m1, m2, c0, hk]
  rw [if_neg bb, sh]
  show EC X 40 [.ref h.1] _ _
  have s0 : hN (sI (sC (sI h 15 1 (nI n)) 16 14 0 0 n) 15 2 0) 1 = dH g h.1 0 (fun _ => 0) := by
    refine H2_ext ?_ ?_ ?_
    · rw [eg]; rfl
    · intro b j
      rw [hgN]
      by_cases e : b = h.1
      · subst e
        rw [hg_ne _ (by omega), hg_sCn _ (by omega), hg_ne _ (by omega), fz, dH_a]
      · by_cases e2 : b = 15 ∧ j = 2
        · obtain ⟨rfl, rfl⟩ := e2
          rw [hg_eq, dH_p _ _ _ sz]
          rfl
        · rw [hg_sI, if_neg e2, dH_o _ _ _ _ _ _ e e2, eg, hgN]
    · rw [eg]; rfl
  rw [s0, g40, dH_1, okl]
  show rV none False _
  rw [rV_n, dH_su, dH_su]
  show EC X 68 _ _ _
  have n0 : (0 : Int32) = 0 := rfl
  apply e68 X _ g f n h.1 sz hg1 ok
  · intro hv r'
    rw [rI_i]; (try dsimp only); rw [if_pos n0, if_pos trivial]
    refine hn0 0 ?_ r'
    unfold prs
    rw [hv]
  · intro v hv hkk r'
    rw [rI_i]; (try dsimp only); rw [if_pos n0, if_pos trivial]
    refine hn0 1 ?_ r'
    unfold prs
    rw [hv, hkk]
  · intro v k hv hkk
    have lt := on1_n tb2 hkk
    rw [rI_i]; (try dsimp only); rw [if_neg n1_0]
    show EC X 69 _ _ _
    have l2 := st2_le (f := f) (n := n) (p := 2) (by omega)
    apply e69 X _ g f n h.1 sz hg1 ok 2 _ (by omega) (by rfl)
    · intro ab hab
      rw [rI_i]; (try dsimp only); rw [if_neg n1_0]
      show EC X 70 _ _ _
      have l3 := st3_le (f := f) (n := n) (p := (st2 f n 2).1) l2
      apply e70 X _ g f n h.1 sz hg1 ok _ _ l2
      · intro fr t hft
        rw [rI_i]; (try dsimp only); rw [if_neg n1_0]
        show EC X 71 _ _ _
        apply e71 X _ g f n h.1 sz hg1 ok _ _ l3 (by rfl)
        · intro s hs4
          rw [rI_i]; (try dsimp only); rw [if_neg n1_0, if_neg n1_0]
          refine hs (st4 f n (st3 f n (st2 f n 2).1).1).1 (rowV v k ab fr t s) ?_ _ ?_
          · unfold prs
            rw [hv, hkk]
            dsimp only
            generalize st2 f n 2 = P2 at *
            obtain ⟨q2, o2⟩ := P2
            dsimp only at hab hft hs4 ⊢
            subst hab
            dsimp only
            generalize st3 f n q2 = P3 at *
            obtain ⟨q3, o3⟩ := P3
            dsimp only at hft hs4 ⊢
            subst hft
            dsimp only
            generalize st4 f n q3 = P4 at *
            obtain ⟨q4, o4⟩ := P4
            dsimp only at hs4 ⊢
            subst hs4
            rfl
          · intro i hi
            have : i = 0 ∨ i = 1 ∨ i = 2 ∨ i = 3 ∨ i = 4 ∨ i = 5 ∨ i = 6 := by omega
            rcases this with rfl | rfl | rfl | rfl | rfl | rfl | rfl <;> rfl
        · intro h4 r'
          rw [rI_i]; (try dsimp only); rw [if_pos n0, if_pos trivial]
          refine hn0 (st4 f n (st3 f n (st2 f n 2).1).1).1 ?_ r'
          unfold prs
          rw [hv, hkk]
          dsimp only
          generalize st2 f n 2 = P2 at *
          obtain ⟨q2, o2⟩ := P2
          dsimp only at hab hft h4 ⊢
          subst hab
          dsimp only
          generalize st3 f n q2 = P3 at *
          obtain ⟨q3, o3⟩ := P3
          dsimp only at hft h4 ⊢
          subst hft
          dsimp only
          generalize st4 f n q3 = P4 at *
          obtain ⟨q4, o4⟩ := P4
          dsimp only at h4 ⊢
          subst h4
          rfl
      · intro h3 r'
        rw [rI_i]; (try dsimp only); rw [if_pos n0, if_pos trivial]
        refine hn0 (st3 f n (st2 f n 2).1).1 ?_ r'
        unfold prs
        rw [hv, hkk]
        dsimp only
        generalize st2 f n 2 = P2 at *
        obtain ⟨q2, o2⟩ := P2
        dsimp only at hab h3 ⊢
        subst hab
        dsimp only
        generalize st3 f n q2 = P3 at *
        obtain ⟨q3, o3⟩ := P3
        dsimp only at h3 ⊢
        subst h3
        rfl
    · intro h2 r'
      rw [rI_i]; (try dsimp only); rw [if_pos n0, if_pos trivial]
      refine hn0 (st2 f n 2).1 ?_ r'
      unfold prs
      rw [hv, hkk]
      dsimp only
      generalize st2 f n 2 = P2 at *
      obtain ⟨q2, o2⟩ := P2
      dsimp only at h2 ⊢
      subst h2
      rfl
