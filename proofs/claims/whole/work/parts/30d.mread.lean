theorem shr1 (r : Int32) {c : Nat} (hc : c < 32) : ((r >>> (nI c &&& 31)) &&& 1 = 1) ↔ bt r c = true := by
  rw [bt_shr r hc]
  by_cases e : bt r c = true
  · rw [if_pos e]
    exact ⟨fun _ => e, fun _ => rfl⟩
  · rw [if_neg e]
    exact ⟨fun z => absurd z (by decide), fun z => absurd z e⟩
theorem k24 : (24 : Int32).toNatClampNeg = 24 ∧ ¬ ((24 : Int32) < 0 ∨ 25 ≤ 24) := by
  refine ⟨by decide, ?_⟩
  rintro (z | z)
  · exact absurd z (by decide)
  · omega
theorem e178s (X : XS) (Q : Option Value → H2 → Prop) (g : H2) (f : Nat → Int32) (n s : Nat) (ok : RmOk g f n s) (p : Nat) (V : Nat → Int32) (hp : p ≤ n) (u : Int32) (u5 : Option Value)
    (h1 : on1 4 4 (cdx f n p) = none → Q (some (.int (nI p))) (mH g s p 0 V))
    (h2 : ∀ c, on1 4 4 (cdx f n p) = some c → bt (V 5) c = true → Q (some (.int (nI p))) (mH g s p 0 V))
    (h3 : ∀ c, on1 4 4 (cdx f n p) = some c → ¬ bt (V 5) c = true → p + 1 = n → Q (some (.int (-9))) (mH g s (p + 1) 0 (upF V 5 (V 5 ||| bit c))))
    (h4 : ∀ c, on1 4 4 (cdx f n p) = some c → ¬ bt (V 5) c = true → p + 1 < n → ∀ u5, E X 178 282 [some (.ref 86), some (.int (nI s)), some (.int u), some (.int 24), some (.int 1), u5] [] (mH g s (p + 1) 0 (upF V 5 (V 5 ||| bit c))) Q) :
    E X 178 282 [some (.ref 86), some (.int (nI s)), some (.int u), some (.int 24), some (.int 1), u5] [] (mH g s p 0 V) Q := by
  have hn := ok.1
  have hsn := ok.2.1
  obtain ⟨k1, k2⟩ := k24
  rw [g178_282, if_neg n1_0]
  show EC X 175 _ _ _
  rw [e175 X _ g f n s ok p 0 V hp, rI_i]
  dsimp only
  show EC X 174 _ _ _
  rw [e174, rI_i]
  dsimp only
  cases ho : on1 4 4 (cdx f n p) with
  | none =>
    rw [if_pos (show oN none = -9 from rfl), mH_13, at_s]
    exact h1 ho
  | some c =>
    have lt := on1_n tb4 ho
    have l4 := on1_lt ho
    have v5 : hg (mH g s p 0 V) 95 24 = V 5 := mH_v g s p 0 V 5 (by omega)
    rw [if_neg (show ¬ oN (some c) = -9 from nI_m9 (by omega)), k1, if_neg k2, if_neg k2, if_neg k2, v5, mH_13, at_s, mH_o _ _ _ _ _ _ _ (by omega) (by omega) (by omega), ok.2.2.1]
    show (if ¬ (V 5 >>> (nI c &&& 31)) &&& 1 = 1 then (if nI (s + n) ≤ nI (s + p) + 1 then E X 178 282 [some (.ref 86), some (.int (nI s)), some (.int u), some (.int 24), some (.int 0), some (.int (nI c))] [] (sI (sI (mH g s p 0 V) 95 24 (V 5 ||| bit c)) 86 13 (nI (s + p) + 1)) Q else E X 178 282 [some (.ref 86), some (.int (nI s)), some (.int u), some (.int 24), some (.int 1), some (.int (nI c))] [] (sI (sI (mH g s p 0 V) 95 24 (V 5 ||| bit c)) 86 13 (nI (s + p) + 1)) Q) else Q (some (.int (nI p))) (mH g s p 0 V))
    have e5 : sI (mH g s p 0 V) 95 24 (V 5 ||| bit c) = mH g s p 0 (upF V 5 (V 5 ||| bit c)) := mH_sv g s p 0 V 5 (by omega) _
    by_cases b : bt (V 5) c = true
    · rw [if_neg (fun z => z ((shr1 (V 5) (by omega)).mpr b))]
      exact h2 c ho b
    · rw [if_pos (fun z => b ((shr1 (V 5) (by omega)).mp z)), nI_1, e5, Nat.add_assoc, mH_sp]
      by_cases q : p + 1 = n
      · rw [if_pos (nI_le (by omega) (by omega)), g178_282, if_pos rfl]
        exact h3 c ho b q
      · rw [if_neg (nI_ge (by omega) (by omega))]
        exact h4 c ho b (by omega) _
theorem cnt_bit {r : Int32} {c : Nat} (hc : c < 4) (hb : ¬ bt r c = true) : cnt (bt r) 4 + 1 = cnt (bt (r ||| bit c)) 4 := by
  refine cnt_upd hc ?_ ?_ ?_
  · rw [b_or, bt_bit (by omega), decide_eq_true rfl, Bool.or_true]
  · cases hh : bt r c with
    | true => exact absurd hh hb
    | false => rfl
  · intro i hi
    rw [b_or, bt_bit (by omega), decide_eq_false hi, Bool.or_false]
theorem cnt_all {r : Int32} {c : Nat} (hc : c < 4) (h4 : cnt (bt r) 4 = 4) : bt r c = true := by
  cases hh : bt r c with
  | true => rfl
  | false =>
    exfalso
    have := cnt_lt (f := bt r) (g := fun _ => true) (p := c) (n := 4) (fun _ _ _ => rfl) hc hh rfl
    rw [cnt_true 4 (fun _ => rfl)] at this
    omega
theorem e178l (X : XS) (Q : Option Value → H2 → Prop) (g : H2) (f : Nat → Int32) (n s : Nat) (ok : RmOk g f n s) (u : Int32) : ∀ i p (V : Nat → Int32) (u5 : Option Value), p < n → cnt (bt (V 5)) 4 + i = 4 → (∀ x, (lx f n i p (V 5)).2 = some x → Q (some (.int (-9))) (mH g s (lx f n i p (V 5)).1 0 (upF V 5 x))) → ((lx f n i p (V 5)).2 = none → ∀ V', Q (some (.int (nI (lx f n i p (V 5)).1))) (mH g s (lx f n i p (V 5)).1 0 V')) → E X 178 282 [some (.ref 86), some (.int (nI s)), some (.int u), some (.int 24), some (.int 1), u5] [] (mH g s p 0 V) Q := by
  intro i
  induction i with
  | zero =>
    intro p V u5 hp hc hs hn0
    have e : lx f n 0 p (V 5) = (p, none) := by
      unfold lx
      rw [if_neg (by omega)]
    rw [e] at hn0
    refine e178s X Q g f n s ok p V (by omega) u u5 (fun _ => hn0 rfl V) (fun _ _ _ => hn0 rfl V) ?_ ?_
    · intro c ho b
      exact absurd (cnt_all (on1_lt ho) (by omega)) b
    · intro c ho b
      exact absurd (cnt_all (on1_lt ho) (by omega)) b
  | succ i ih =>
    intro p V u5 hp hc hs hn0
    unfold lx at hs hn0
    rw [if_neg (show ¬ p = n by omega)] at hs hn0
    refine e178s X Q g f n s ok p V (by omega) u u5 ?_ ?_ ?_ ?_
    · intro ho
      rw [ho] at hn0
      exact hn0 rfl V
    · intro c ho b
      rw [ho] at hn0
      dsimp only at hn0
      rw [if_pos b] at hn0
      exact hn0 rfl V
    · intro c ho b q
      rw [ho] at hs
      dsimp only at hs
      rw [if_neg b] at hs
      have e : lx f n i (p + 1) (V 5 ||| bit c) = (p + 1, some (V 5 ||| bit c)) := by
        cases i with
        | zero => unfold lx; rw [if_pos q]
        | succ i => unfold lx; rw [if_pos q]
      rw [e] at hs
      exact hs _ rfl
    · intro c ho b q u5
      rw [ho] at hs hn0
      dsimp only at hs hn0
      rw [if_neg b] at hs hn0
      have l4 := on1_lt ho
      have cb := cnt_bit l4 b
      have u5' : upF V 5 (V 5 ||| bit c) 5 = V 5 ||| bit c := upF_e _ _ _
      have uu : ∀ x, upF (upF V 5 (V 5 ||| bit c)) 5 x = upF V 5 x := by
        intro x
        funext j
        by_cases e : j = 5
        · subst e; rw [upF_e, upF_e]
        · rw [upF_n e, upF_n e, upF_n e]
      refine ih (p + 1) (upF V 5 (V 5 ||| bit c)) u5 q (by rw [u5']; omega) ?_ ?_
      · intro x z
        rw [u5'] at z ⊢
        rw [uu]
        exact hs x z
      · intro z V'
        rw [u5'] at z ⊢
        exact hn0 z V'
theorem e178d (X : XS) (Q : Option Value → H2 → Prop) (g : H2) (f : Nat → Int32) (n s : Nat) (ok : RmOk g f n s) (p : Nat) (V : Nat → Int32) (hp : p ≤ n) (u : Int32)
    (hs : ∀ x, (st4 f n p).2 = some x → Q (some (.int (-9))) (mH g s (st4 f n p).1 0 (upF (upF (upF V 5 0) 6 (-9)) 5 x))) (hn0 : (st4 f n p).2 = none → ∀ V', Q (some (.int (nI (st4 f n p).1))) (mH g s (st4 f n p).1 0 V')) :
    E X 178 210 [some (.ref 86), some (.int (nI s)), some (.int u), some (.int 24), none, none] [] (mH g s p 0 V) Q := by
  have hn := ok.1
  have hsn := ok.2.1
  obtain ⟨k1, k2⟩ := k24
  have e5 : ∀ V x, sI (mH g s p 0 V) 95 24 x = mH g s p 0 (upF V 5 x) := fun V x => mH_sv g s p 0 V 5 (by omega) _
  have e6 : ∀ V x, sI (mH g s p 0 V) 96 24 x = mH g s p 0 (upF V 6 x) := fun V x => mH_sv g s p 0 V 6 (by omega) _
  rw [g178_210, mH_15, if_pos rfl, k1, if_neg k2, if_neg k2, mH_13, mH_o _ _ _ _ _ _ _ (by omega) (by omega) (by omega), ok.2.2.1, e5, e6]
  unfold st4 at hs hn0
  by_cases e : p = n
  · rw [if_neg (fun z => z (by rw [e]))]
    rw [if_pos e] at hs
    have := hs 0 rfl
    have uu : upF (upF (upF V 5 0) 6 (-9)) 5 0 = upF (upF V 5 0) 6 (-9) := by
      funext j
      by_cases e : j = 5
      · subst e; rw [upF_e]; rfl
      · rw [upF_n e]
    rw [uu] at this
    exact this
  · rw [if_pos (fun z => e (by have := (nI_eq (by omega) (by omega)).mp z; omega))]
    rw [if_neg e] at hs hn0
    show EC X 175 _ _ _
    rw [e175 X _ g f n s ok p 0 _ hp, rI_i]
    dsimp only
    by_cases c : cdx f n p = 33
    · rw [if_pos c] at hs hn0 ⊢
      have lt := cdx_n (by decide) c
      rw [mH_13, nI_1, Nat.add_assoc, mH_sp]
      have v5 : upF (upF V 5 0) 6 (-9) 5 = 0 := rfl
      refine e178s X Q g f n s ok (p + 1) _ (by omega) u none ?_ ?_ ?_ ?_
      · intro ho
        rw [ho] at hn0
        exact hn0 rfl _
      · intro c ho b
        rw [v5, b_0] at b
        cases b
      · intro c ho b q
        rw [ho] at hs
        rw [v5]
        dsimp only at hs
        have e : lx f n 3 (p + 2) (0 ||| bit c) = (p + 2, some (0 ||| bit c)) := by
          unfold lx
          rw [if_pos q]
        rw [e] at hs
        exact hs _ rfl
      · intro c ho b q u5
        rw [ho] at hs hn0
        rw [v5]
        dsimp only at hs hn0
        have l4 := on1_lt ho
        have cb := cnt_bit l4 b
        rw [v5] at cb
        have c0 : cnt (bt 0) 4 = 0 := by decide
        have u5' : upF (upF (upF V 5 0) 6 (-9)) 5 (0 ||| bit c) 5 = 0 ||| bit c := upF_e _ _ _
        have uu : ∀ x, upF (upF (upF (upF V 5 0) 6 (-9)) 5 (0 ||| bit c)) 5 x = upF (upF (upF V 5 0) 6 (-9)) 5 x := by
          intro x
          funext j
          by_cases e : j = 5
          · subst e; rw [upF_e, upF_e]
          · rw [upF_n e, upF_n e, upF_n e]
        refine e178l X Q g f n s ok u 3 (p + 2) (upF (upF (upF V 5 0) 6 (-9)) 5 (0 ||| bit c)) u5 (by omega) (by rw [u5']; omega) ?_ ?_
        · intro x z
          rw [u5'] at z ⊢
          rw [uu]
          exact hs x z
        · intro z V'
          rw [u5'] at z ⊢
          exact hn0 z V'
    · rw [if_neg c] at hs hn0 ⊢
      rw [mH_13, at_s]
      exact hn0 rfl _
theorem e178c (X : XS) (Q : Option Value → H2 → Prop) (g : H2) (f : Nat → Int32) (n s : Nat) (ok : RmOk g f n s) (p : Nat) (V : Nat → Int32) (hp : p ≤ n) (u : Int32)
    (hs : ∀ fr t, (st3 f n p).2 = some (fr, t) → E X 178 210 [some (.ref 86), some (.int (nI s)), some (.int u), some (.int 24), none, none] [] (mH g s (st3 f n p).1 0 (upF (upF V 3 (nI fr)) 4 (nI t))) Q) (hn0 : (st3 f n p).2 = none → ∀ w V', Q (some (.int (nI (st3 f n p).1))) (mH g s (st3 f n p).1 w V')) :
    E X 178 164 [some (.ref 86), some (.int (nI s)), some (.int u), some (.int 24), none, none] [] (mH g s p 0 V) Q := by
  obtain ⟨k1, k2⟩ := k24
  have e3 : ∀ p w V x, sI (mH g s p w V) 93 24 x = mH g s p w (upF V 3 x) := fun p w V x => mH_sv g s p w V 3 (by omega) _
  have e4 : ∀ p w V x, sI (mH g s p w V) 94 24 x = mH g s p w (upF V 4 x) := fun p w V x => mH_sv g s p w V 4 (by omega) _
  rw [g178_164]
  show EC X 177 _ _ _
  rw [e177_0 X _ g f n s ok p V hp]
  unfold st3 at hs hn0
  by_cases c : cdx f n p = 64
  · rw [if_pos c] at hs hn0 ⊢
    have lt := cdx_n (by decide) c
    rw [rV_n]
    dsimp only
    rw [mH_15, if_neg (fun z => z rfl)]
    show EC X 176 _ _ _
    rw [e176 X _ g f n s ok (p + 1) V (by omega), rI_i]
    dsimp only
    rw [k1, if_neg k2, e3]
    have l1 := pNm_le (f := f) (n := n) (p := p + 1) (by omega)
    generalize pNm f n (p + 1) = P1 at *
    obtain ⟨q, o⟩ := P1
    dsimp only at hs hn0 l1 ⊢
    cases o with
    | none => exact (e178w X Q g f n s ok q _ l1 u (hn0 rfl _ _)).2.1
    | some fr =>
      show E X 178 187 _ [] (mH g s q 0 (upF V 3 (nI fr))) Q
      rw [g178_187]
      show EC X 177 _ _ _
      rw [e177_0 X _ g f n s ok q _ l1]
      dsimp only at hs hn0
      by_cases c2 : cdx f n q = 45
      · rw [if_pos c2] at hs hn0 ⊢
        have lt2 := cdx_n (by decide) c2
        rw [rV_n]
        dsimp only
        rw [mH_15, if_neg (fun z => z rfl)]
        show EC X 176 _ _ _
        rw [e176 X _ g f n s ok (q + 1) _ (by omega), rI_i]
        dsimp only
        rw [k1, if_neg k2, e4]
        have l2 := pNm_le (f := f) (n := n) (p := q + 1) (by omega)
        generalize pNm f n (q + 1) = P2 at *
        obtain ⟨q2, o2⟩ := P2
        dsimp only at hs hn0 l2 ⊢
        cases o2 with
        | none => exact (e178w X Q g f n s ok q2 _ l2 u (hn0 rfl _ _)).2.2
        | some t => exact hs fr t rfl
      · rw [if_neg c2] at hs hn0 ⊢
        rw [rV_n]
        dsimp only
        rw [mH_15, if_pos n1_0]
        exact (e178w X Q g f n s ok q _ l1 u (hn0 rfl _ _)).2.2
  · rw [if_neg c] at hs hn0 ⊢
    rw [rV_n]
    dsimp only
    rw [mH_15, if_pos n1_0]
    exact (e178w X Q g f n s ok p _ hp u (hn0 rfl _ _)).2.1
theorem e178 (X : XS) (h : H2) (Q : Option Value → H2 → Prop) (n s : Nat) (hn : n ≤ 60) (hsn : s + n ≤ 240) (f : Nat → Int32) (hf : ∀ j, j < n → hg h 89 (s + j) = f j) (g : H2) (eg : g = sI h 86 14 (nI (s + n)))
    (hs : ∀ q V, prs f n = (q, some V) → ∀ V', (∀ i, i < 7 → V' i = V i) → Q (some (.int (-9))) (mH g s q 0 V')) (hn0 : ∀ q, prs f n = (q, none) → ∀ w V', Q (some (.int (nI q))) (mH g s q w V')) : EC X 178 [.ref 86, .int (nI s), .int (nI n)] h Q := by
  obtain ⟨k1, k2⟩ := k24
  have ok : RmOk g f n s := by
    refine ⟨hn, hsn, ?_, ?_⟩
    · rw [eg, hg_eq]
    · intro j hj
      rw [eg, hg_ne _ (by decide), hf j hj]
  have s0 : sI (sI (sI h 86 13 (nI s)) 86 14 (nI s + nI n)) 86 15 0 = mH g s 0 0 (fun i => hg h (90 + i) 24) := by
    refine H2_ext ?_ ?_ ?_
    · rw [eg]; rfl
    · intro b j
      rw [hg_mH, hg_sI, hg_sI, hg_sI, eg, hg_sI, nI_add, Nat.add_zero]
      by_cases e1 : b = 86 ∧ j = 13
      · rw [if_neg (by omega), if_neg (by omega), if_pos e1, if_pos e1]
      · rw [if_neg e1, if_neg e1]
        by_cases e2 : b = 86 ∧ j = 15
        · rw [if_pos e2, if_pos e2]
        · rw [if_neg e2, if_neg e2]
          by_cases e3 : (90 ≤ b ∧ b < 97) ∧ j = 24
          · obtain ⟨e4, rfl⟩ := e3
            rw [if_neg (by omega), if_pos (show (90 ≤ b ∧ b < 97) ∧ 24 = 24 from ⟨e4, rfl⟩), show 90 + (b - 90) = b by omega]
          · rw [if_neg e3]
    · rw [eg]; rfl
  have e0 : ∀ p w V x, sI (mH g s p w V) 90 24 x = mH g s p w (upF V 0 x) := fun p w V x => mH_sv g s p w V 0 (by omega) _
  have e1 : ∀ p w V x, sI (mH g s p w V) 91 24 x = mH g s p w (upF V 1 x) := fun p w V x => mH_sv g s p w V 1 (by omega) _
  have e2 : ∀ p w V x, sI (mH g s p w V) 92 24 x = mH g s p w (upF V 2 x) := fun p w V x => mH_sv g s p w V 2 (by omega) _
  rw [g178, s0]
  show EC X 175 _ _ _
  rw [e175 X _ g f n s ok 0 0 _ (by omega), rI_i]
  dsimp only
  show EC X 173 _ _ _
  rw [e173, rI_i]
  dsimp only
  rw [e0]
  cases hv : on1 1 4 (cdx f n 0) with
  | none =>
    rw [if_neg (fun z => z rfl), mH_13, at_s]
    refine hn0 0 ?_ _ _
    unfold prs
    rw [hv]
  | some v =>
    have lv := on1_lt hv
    have lt := on1_n tb1 hv
    rw [if_pos (show ¬ oN (some v) = -9 from nI_m9 (by omega)), mH_13, nI_1, Nat.add_assoc, mH_sp]
    show EC X 175 _ (mH g s 1 0 _) _
    rw [e175 X _ g f n s ok 1 0 _ (by omega), rI_i]
    dsimp only
    -- behind the kind
    have rest : ∀ (k : Nat) (V : Nat → Int32), on1 2 5 (cdx f n 1) = some k → V 0 = nI v → E X 178 116 [some (.ref 86), some (.int (nI s)), some (.int (nI n)), some (.int 24), none, none] [.int (nI k), .int 24, .ref 91] (mH g s 1 0 V) Q := by
      intro k V hkk hV
      have lt1 := on1_n tb2 hkk
      rw [g178_116, k1, if_neg k2, if_neg k2, mH_13, e1, nI_1, Nat.add_assoc, mH_sp, e2]
      show EC X 175 _ (mH g s 2 0 _) _
      rw [e175 X _ g f n s ok 2 0 _ (by omega), rI_i]
      dsimp only
      have l2 := st2_le (f := f) (n := n) (p := 2) (by omega)
      -- behind 'above'
      have rest2 : ∀ (ab : Int32) (W : Nat → Int32), (st2 f n 2).2 = some ab → (∀ i, i < 3 → W i = (upF (upF (upF V 1 (nI k)) 2 (-9)) 2 ab) i) → E X 178 164 [some (.ref 86), some (.int (nI s)), some (.int (nI n)), some (.int 24), none, none] [] (mH g s (st2 f n 2).1 0 W) Q := by
        intro ab W hab hW
        have l3 := st3_le (f := f) (n := n) (p := (st2 f n 2).1) l2
        apply e178c X Q g f n s ok _ _ l2
        · intro fr t hft
          apply e178d X Q g f n s ok _ _ l3
          · intro x hx
            refine hs (st4 f n (st3 f n (st2 f n 2).1).1).1 (rowV v k ab fr t x) ?_ _ ?_
            · unfold prs
              rw [hv, hkk]
              dsimp only
              generalize st2 f n 2 = P2 at *
              obtain ⟨q2, o2⟩ := P2
              dsimp only at hab hft hx ⊢
              subst hab
              dsimp only
              generalize st3 f n q2 = P3 at *
              obtain ⟨q3, o3⟩ := P3
              dsimp only at hft hx ⊢
              subst hft
              dsimp only
              generalize st4 f n q3 = P4 at *
              obtain ⟨q4, o4⟩ := P4
              dsimp only at hx ⊢
              subst hx
              rfl
            · intro i hi
              have : i = 0 ∨ i = 1 ∨ i = 2 ∨ i = 3 ∨ i = 4 ∨ i = 5 ∨ i = 6 := by omega
              rcases this with rfl | rfl | rfl | rfl | rfl | rfl | rfl
              · show W 0 = nI v
                rw [hW 0 (by omega)]
                exact hV
              · show W 1 = nI k
                rw [hW 1 (by omega)]
                rfl
              · show W 2 = ab
                rw [hW 2 (by omega)]
                rfl
              · rfl
              · rfl
              · rfl
              · rfl
          · intro h4 V'
            refine hn0 (st4 f n (st3 f n (st2 f n 2).1).1).1 ?_ _ V'
            unfold prs
            rw [hv, hkk]
            dsimp only
            generalize st2 f n 2 = P2 at *
            obtain ⟨q2, o2⟩ := P2
            dsimp only at hab hft h4 ⊢
            subst hab
            dsimp only
            generalize st3 f n q2 = P3 at *
            obtain ⟨q3, o3⟩ := P3
            dsimp only at hft h4 ⊢
            subst hft
            dsimp only
            generalize st4 f n q3 = P4 at *
            obtain ⟨q4, o4⟩ := P4
            dsimp only at h4 ⊢
            subst h4
            rfl
        · intro h3 w V'
          refine hn0 (st3 f n (st2 f n 2).1).1 ?_ w V'
          unfold prs
          rw [hv, hkk]
          dsimp only
          generalize st2 f n 2 = P2 at *
          obtain ⟨q2, o2⟩ := P2
          dsimp only at hab h3 ⊢
          subst hab
          dsimp only
          generalize st3 f n q2 = P3 at *
          obtain ⟨q3, o3⟩ := P3
          dsimp only at h3 ⊢
          subst h3
          rfl
      by_cases c : cdx f n 2 = 62
      · rw [if_neg (fun z => z c), mH_13, nI_1, Nat.add_assoc, mH_sp]
        have lt2 := cdx_n (by decide) c
        show EC X 176 _ (mH g s 3 0 _) _
        rw [e176 X _ g f n s ok 3 _ (by omega), rI_i]
        dsimp only
        rw [if_neg k2, e2]
        have es : st2 f n 2 = (match pNm f n 3 with
          | (q, none) => (q, none)
          | (q, some x) => (q, some (nI x))) := by
          unfold st2
          rw [if_pos c]
          rfl
        have l3 := pNm_le (f := f) (n := n) (p := 3) (by omega)
        generalize pNm f n 3 = P at *
        obtain ⟨q, o⟩ := P
        cases o with
        | none =>
          refine (e178w X Q g f n s ok q _ l3 (nI n) ?_).1
          refine hn0 q ?_ _ _
          unfold prs
          rw [hv, hkk]
          dsimp only
          rw [es]
        | some x =>
          dsimp only at es
          have r2 := rest2 (nI x) (upF (upF (upF V 1 (nI k)) 2 (-9)) 2 (nI x)) (by rw [es]) (fun i _ => rfl)
          rw [es] at r2
          exact r2
      · rw [if_pos c]
        have es : st2 f n 2 = (2, some (-9)) := by
          unfold st2
          rw [if_neg c]
        have r2 := rest2 (-9) (upF (upF V 1 (nI k)) 2 (-9)) (by rw [es]) (fun i hi => by
          have : i = 0 ∨ i = 1 ∨ i = 2 := by omega
          rcases this with rfl | rfl | rfl <;> rfl)
        rw [es] at r2
        exact r2
    have e48 : (48 : Int32) = nI 48 := by decide
    rcases knd (cdx f n 1) with ⟨k42, ko⟩ | ⟨k42, a, ha, ex, ko, kr⟩ | ⟨k42, ko, kr⟩
    · rw [if_pos k42, g178_91]
      show EC X 175 _ _ _
      rw [e175 X _ g f n s ok 1 0 _ (by omega), rI_i]
      dsimp only
      rw [if_neg (fun z => z k42)]
      exact rest 4 _ ko rfl
    · rw [if_neg k42]
      show EC X 175 _ _ _
      rw [e175 X _ g f n s ok 1 0 _ (by omega), rI_i]
      dsimp only
      show EC X 168 _ _ _
      rw [e168, rI_i, b2i_t kr]
      dsimp only
      rw [if_pos n1_0, g178_91]
      show EC X 175 _ _ _
      rw [e175 X _ g f n s ok 1 0 _ (by omega), rI_i]
      dsimp only
      rw [if_pos k42]
      show EC X 175 _ _ _
      rw [e175 X _ g f n s ok 1 0 _ (by omega), rI_i]
      dsimp only
      have e3 : cdx f n 1 - 48 = nI a := by
        rw [ex, e48, pk_sub (by omega)]
        congr 1
        omega
      rw [e3]
      exact rest a _ ko rfl
    · rw [if_neg k42]
      show EC X 175 _ _ _
      rw [e175 X _ g f n s ok 1 0 _ (by omega), rI_i]
      dsimp only
      show EC X 168 _ _ _
      rw [e168, rI_i, b2i_f kr]
      dsimp only
      rw [if_neg (fun z => z rfl), mH_13, at_s]
      refine hn0 1 ?_ _ _
      unfold prs
      rw [hv, ko]
