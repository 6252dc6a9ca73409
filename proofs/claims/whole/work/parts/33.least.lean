/-! least: the program's half -/
def WyC (h : H2) (cl : Nat) (ad : Nat → Nat) (c : Nat) (fr to : Nat → Nat) : Prop :=
  (LsOk h cl ad) ∧ (c ≤ 24) ∧ (hg h 19 9 = nI c) ∧ (hg h 86 16 = nI c) ∧ (∀ s, s < c → StOk h s) ∧ (∀ s, s < c → fr s < 12) ∧ (∀ s, s < c → to s < 12) ∧ (∀ s, s < c → hg h 20 s = nI (fr s)) ∧ (∀ s, s < c → hg h 97 s = nI (fr s)) ∧ (∀ s, s < c → hg h 21 s = nI (to s)) ∧ (∀ s, s < c → hg h 98 s = nI (to s))
theorem WyC.ls {h : H2} {cl : Nat} {ad : Nat → Nat} {c : Nat} {fr to : Nat → Nat} (x : WyC h cl ad c fr to) : LsOk h cl ad := x.1
theorem WyC.c24 {h : H2} {cl : Nat} {ad : Nat → Nat} {c : Nat} {fr to : Nat → Nat} (x : WyC h cl ad c fr to) : c ≤ 24 := x.2.1
theorem WyC.c1 {h : H2} {cl : Nat} {ad : Nat → Nat} {c : Nat} {fr to : Nat → Nat} (x : WyC h cl ad c fr to) : hg h 19 9 = nI c := x.2.2.1
theorem WyC.c2 {h : H2} {cl : Nat} {ad : Nat → Nat} {c : Nat} {fr to : Nat → Nat} (x : WyC h cl ad c fr to) : hg h 86 16 = nI c := x.2.2.2.1
theorem WyC.so {h : H2} {cl : Nat} {ad : Nat → Nat} {c : Nat} {fr to : Nat → Nat} (x : WyC h cl ad c fr to) : ∀ s, s < c → StOk h s := x.2.2.2.2.1
theorem WyC.f12 {h : H2} {cl : Nat} {ad : Nat → Nat} {c : Nat} {fr to : Nat → Nat} (x : WyC h cl ad c fr to) : ∀ s, s < c → fr s < 12 := x.2.2.2.2.2.1
theorem WyC.t12 {h : H2} {cl : Nat} {ad : Nat → Nat} {c : Nat} {fr to : Nat → Nat} (x : WyC h cl ad c fr to) : ∀ s, s < c → to s < 12 := x.2.2.2.2.2.2.1
theorem WyC.r20 {h : H2} {cl : Nat} {ad : Nat → Nat} {c : Nat} {fr to : Nat → Nat} (x : WyC h cl ad c fr to) : ∀ s, s < c → hg h 20 s = nI (fr s) := x.2.2.2.2.2.2.2.1
theorem WyC.r97 {h : H2} {cl : Nat} {ad : Nat → Nat} {c : Nat} {fr to : Nat → Nat} (x : WyC h cl ad c fr to) : ∀ s, s < c → hg h 97 s = nI (fr s) := x.2.2.2.2.2.2.2.2.1
theorem WyC.r21 {h : H2} {cl : Nat} {ad : Nat → Nat} {c : Nat} {fr to : Nat → Nat} (x : WyC h cl ad c fr to) : ∀ s, s < c → hg h 21 s = nI (to s) := x.2.2.2.2.2.2.2.2.2.1
theorem WyC.r98 {h : H2} {cl : Nat} {ad : Nat → Nat} {c : Nat} {fr to : Nat → Nat} (x : WyC h cl ad c fr to) : ∀ s, s < c → hg h 98 s = nI (to s) := x.2.2.2.2.2.2.2.2.2.2
theorem n20 : (2 : Nat) ∉ [0] := by decide
theorem n30 : (3 : Nat) ∉ [0] := by decide
theorem n90 : (9 : Nat) ∉ [0] := by decide
theorem m00 : (0 : Nat) ∈ [0] := by decide
theorem comp_ln {a i : Nat} (ha : 137 ≤ a) : comp a i = 2 := by
  unfold comp
  have e : ∀ n, n < 137 → Nat.beq a n = false := fun n hn => by
    cases q : Nat.beq a n with
    | true => have := Nat.eq_of_beq_eq_true q; omega
    | false => rfl
  rw [e 86 (by omega), e 62 (by omega), e 74 (by omega), e 19 (by omega), show Nat.ble 137 a = true from Nat.ble_eq.mpr ha]
  rfl
theorem comp_90 {b : Nat} (h1 : 90 ≤ b) (h2 : b < 97) (j : Nat) : comp b j = 2 := by
  have : b = 90 ∨ b = 91 ∨ b = 92 ∨ b = 93 ∨ b = 94 ∨ b = 95 ∨ b = 96 := by omega
  rcases this with rfl | rfl | rfl | rfl | rfl | rfl | rfl <;> rfl
theorem comp_st {b j : Nat} (h1 : (20 ≤ b ∧ b < 26) ∨ (97 ≤ b ∧ b < 103) ∨ (b = 19 ∧ j = 9) ∨ (b = 86 ∧ j = 16)) : comp b j = 3 := by
  have : b = 20 ∨ b = 21 ∨ b = 22 ∨ b = 23 ∨ b = 24 ∨ b = 25 ∨ b = 97 ∨ b = 98 ∨ b = 99 ∨ b = 100 ∨ b = 101 ∨ b = 102 ∨ (b = 19 ∧ j = 9) ∨ (b = 86 ∧ j = 16) := by omega
  rcases this with rfl | rfl | rfl | rfl | rfl | rfl | rfl | rfl | rfl | rfl | rfl | rfl | ⟨rfl, rfl⟩ | ⟨rfl, rfl⟩ <;> rfl
theorem LsOk_W {s : List Nat} {h g : H2} {c : Nat} {ad : Nat → Nat} (ok : LsOk h c ad) (hs : 2 ∉ s) (w : Wr s h g) : LsOk g c ad := by
  have q := w.2.2 hs
  refine InvL_w ok (w.1 _ _ hs) (w.1 _ _ hs) (fun l _ => by rw [q.2]) (fun a i h1 h2 => w.1 _ _ (by rw [comp_ln h1]; exact hs)) (fun b j h1 h2 _ => w.1 _ _ (by rw [comp_90 h1 h2]; exact hs)) (by rw [q.1]; exact Nat.le_refl _) ?_
  intro a i ha
  rw [q.1] at ha
  have h137 := ok.2.2.2.2.2.1
  rw [w.1 _ _ (by rw [comp_ln (by omega)]; exact hs)]
  exact ok.2.2.2.2.2.2 a ha i
theorem WsOk_W {s : List Nat} {h g : H2} {c : Nat} (ok : WsOk h c) (hs : 3 ∉ s) (w : Wr s h g) : WsOk g c :=
  WsOk_r ok (fun b j hb => w.1 _ _ (by rw [comp_st hb]; exact hs))
theorem opB_W {s : List Nat} {h g : H2} (h2 : 2 ∉ s) (h3 : 3 ∉ s) (w : Wr s h g) (cl : Nat) (d : Int32) (k : Nat) : opB g cl d k = opB h cl d k := by
  unfold opB
  rw [w.1 22 k h3, w.1 23 k h3, w.1 24 k h3, w.1 25 k h3, frs_congr (q := fun l => stB h l (hg h 22 k) (hg h 23 k) (hg h 24 k) (hg h 25 k) d)]
  intro l _
  rw [stB_V, stB_V]
  exact stV_congr (fun i hi => w.1 _ _ (by rw [comp_90 (by omega) (by omega)]; exact h2)) _ _ _ _ _
theorem WyC_W {h g : H2} {cl : Nat} {ad : Nat → Nat} {c : Nat} {fr to : Nat → Nat} (x : WyC h cl ad c fr to) (w : Wr [0] h g) : WyC g cl ad c fr to :=
  ⟨LsOk_W x.ls n20 w,
   x.c24,
   (w.1 19 9 n30).trans x.c1,
   (w.1 86 16 n30).trans x.c2,
   (WsOk_W (c := c) ⟨x.c24, x.c1, x.c2, x.so⟩ n30 w).2.2.2,
   x.f12,
   x.t12,
   fun s hs => (w.1 20 s n30).trans (x.r20 s hs),
   fun s hs => (w.1 97 s n30).trans (x.r97 s hs),
   fun s hs => (w.1 21 s n30).trans (x.r21 s hs),
   fun s hs => (w.1 98 s n30).trans (x.r98 s hs)⟩
theorem narb (b : Bool) : vp_nar .boolean (bz b) = bz b := by cases b <;> decide
theorem Ed_12 {c : Nat} {op : Nat → Bool} {fr to : Nat → Nat} (ht : ∀ s, s < c → to s < 12) : ∀ v w, Ed c op fr to v w → w < 12 := by
  rintro v w ⟨s, hs, -, -, rfl⟩
  exact ht s hs
theorem p103 (X : XS) (h : H2) {cl : Nat} {ad : Nat → Nat} {c : Nat} {fr to : Nat → Nat} (x : WyC h cl ad c fr to) (d : Int32) (Q : Option Value → H2 → Prop) (cont : ∀ g, Wr [0] h g → (∀ s, s < c → hg g 26 s = bz (opB h cl d s)) → cV X 104 [.ref 19] g (fun h1 => (if ¬ (hg h1 27 0) = (1000 : Int32) then cV X 105 [.ref 19, .int (hg h1 27 0)] h1 (fun h2 => Q (some (.int (hg h1 27 0))) h2) else Q (some (.int (-9 : Int32))) h1))) : ∀ m k g, k + m = c → Wr [0] h g → (∀ s, s < k → hg g 26 s = bz (opB h cl d s)) → E X 103 2 [some (.ref 19), some (.ref 17), some (.int d), some (.int (nI k))] [] g Q := by
  have c24 := x.c24
  intro m
  induction m with
  | zero =>
    intro k g hk w ho
    obtain rfl : k = c := by omega
    rw [g103_2, (WyC_W x w).c1, if_pos (nI_le (Nat.le_refl _) (by omega))]
    exact cont g w ho
  | succ m ih =>
    intro k g hk w ho
    rw [g103_2, (WyC_W x w).c1, if_neg (nI_ge (by omega) (by omega))]
    show EC X 101 _ _ _
    rw [e101 X g _ cl ad (WyC_W x w).ls k (by omega), rI_i, nI_clamp (by omega)]
    dsimp only
    rw [if_neg (bI k 24 (by omega) (by omega)), nI_1, narb, opB_W n20 n30 w]
    refine ih (k + 1) _ (by omega) (Wr_sI w m00) ?_
    intro s hs
    by_cases q : s = k
    · subst q; rw [hg_eq]
    · rw [hg_nj _ q]; exact ho s (by omega)
/-- the program's row while it is measured: r rounds done, and s steps of the next -/
def Mea (c : Nat) (op : Nat → Bool) (fr to : Nat → Nat) (g : H2) (r s : Nat) : Prop := ∀ v, v < 12 → ∃ t, t ≤ 1000 ∧ hg g 27 v = nI t ∧ (t < 1000 → Rb (Ed c op fr to) t v) ∧ (∀ k, k ≤ r → Rb (Ed c op fr to) k v → t ≤ k) ∧ (∀ j, j < s → op j = true → fr j = v → ∀ k, k ≤ r → Rb (Ed c op fr to) k (to j) → t ≤ k + 1)
theorem Mea_nx {c : Nat} {op : Nat → Bool} {fr to : Nat → Nat} {g : H2} {r : Nat} (m : Mea c op fr to g r c) : Mea c op fr to g (r + 1) 0 := by
  intro v hv
  obtain ⟨t, ht, q, a1, a2, a3⟩ := m v hv
  refine ⟨t, ht, q, a1, ?_, fun j hj => absurd hj (Nat.not_lt_zero _)⟩
  intro k hk rb
  by_cases z : k ≤ r
  · exact a2 k z rb
  · obtain rfl : k = r + 1 := by omega
    rcases rb with rb | ⟨w, ⟨j, hj, b1, b2, rfl⟩, rb⟩
    · have := a2 r (Nat.le_refl _) rb
      omega
    · exact a3 j hj b1 b2 r (Nat.le_refl _) rb
theorem Mea_far {c : Nat} {op : Nat → Bool} {fr to : Nat → Nat} {g : H2} (h12 : ∀ s, s < c → to s < 12) (m : Mea c op fr to g 11 0) : Far (Ed c op fr to) (fun v => hg g 27 v) 1000 := by
  intro v hv
  obtain ⟨t, ht, q, a1, a2, -⟩ := m v hv
  have lim : ∀ n, Rb (Ed c op fr to) n v → ∃ k, k ≤ 11 ∧ Ds (Ed c op fr to) k v := fun n rb => by
    obtain ⟨k, hk, d⟩ := Ds_ex n rb
    exact ⟨k, Ds_11 (Ed_12 h12) hv d, d⟩
  by_cases z : t = 1000
  · right
    refine ⟨fun n rb => ?_, by show hg g 27 v = 1000; rw [q, z]; decide⟩
    obtain ⟨k, hk, d⟩ := lim n rb
    have := a2 k hk d.1
    omega
  · left
    obtain ⟨k, hk, d⟩ := lim t (a1 (by omega))
    have h1 := a2 k hk d.1
    have h2 : ¬ t < k := fun z => d.2 t z (a1 (by omega))
    obtain rfl : t = k := by omega
    exact ⟨t, hk, d, q⟩
