/-! the cells by component; what a stretch may write -/
def cmR : List Nat := [12, 12, 12, 12, 12, 10, 1, 0, 1, 1, 1, 1, 1, 1, 0, 0, 0, 2, 0, 0, 3, 3, 3, 3, 3, 3, 0, 0, 0, 4, 4, 4, 4, 4, 5, 0, 5, 5, 5, 5, 5, 5, 5, 5, 5, 0, 5, 5, 5, 5, 5, 5, 5, 5, 5, 5, 5, 5, 5, 5, 5, 5, 0, 6, 6, 6, 6, 6, 6, 0, 0, 7, 7, 7, 0, 8, 8, 8, 8, 8, 11, 11, 11, 11, 11, 11, 0, 1, 1, 1, 2, 2, 2, 2, 2, 2, 2, 3, 3, 3, 3, 3, 3, 0, 0, 4, 4, 4, 4, 5, 5, 5, 5, 5, 5, 0, 6, 6, 6, 6, 6, 6, 0, 7, 7, 8, 8, 8, 0, 0, 9, 9, 11, 11, 11, 11, 11]
def cm86 : List Nat := [1, 6, 0, 0, 0, 2, 0, 0, 0, 0, 0, 0, 0, 0, 0, 0, 3, 0, 0, 0, 0, 0, 0, 0, 0, 4, 0, 4, 0, 0, 0, 5, 0, 0, 5, 0, 0, 0, 0, 0, 6, 0, 0, 6, 6, 0, 0, 0, 0, 0, 0, 0, 0, 0, 0, 0, 7, 0, 0, 8, 8, 8, 0, 0, 0, 0, 0, 9, 0, 0, 10, 11]
def cm62 : List Nat := [0, 0, 0, 0, 0, 0, 0, 0, 0, 6, 6, 6, 6]
def cm74 : List Nat := [0, 0, 0, 0, 0, 8, 8, 8, 8, 9, 0, 0, 0]
def cm19 : List Nat := [0, 0, 0, 0, 0, 0, 0, 0, 0, 3]
def comp (a i : Nat) : Nat :=
  bif Nat.beq a 86 then cm86.getD i 0 else bif Nat.beq a 62 then cm62.getD i 0 else bif Nat.beq a 74 then cm74.getD i 0 else bif Nat.beq a 19 then cm19.getD i 0 else bif Nat.ble 137 a then 2 else cmR.getD a 0
/-- only cells of the components in s are written -/
def Wr (s : List Nat) (h h' : H2) : Prop :=
  (∀ a i, comp a i ∉ s → hg h' a i = hg h a i) ∧ (9 ∉ s → ∀ a i, gJ h' a i = gJ h a i) ∧ (2 ∉ s → h'.1 = h.1 ∧ h'.2.2.2 = h.2.2.2)
theorem Wr_refl (s : List Nat) (h : H2) : Wr s h h := ⟨fun _ _ _ => rfl, fun _ _ _ => rfl, fun _ => ⟨rfl, rfl⟩⟩
theorem Wr_trans {s : List Nat} {h h1 h2 : H2} (w1 : Wr s h h1) (w2 : Wr s h1 h2) : Wr s h h2 :=
  ⟨fun a i q => (w2.1 a i q).trans (w1.1 a i q), fun q a i => (w2.2.1 q a i).trans (w1.2.1 q a i), fun q => ⟨(w2.2.2 q).1.trans (w1.2.2 q).1, (w2.2.2 q).2.trans (w1.2.2 q).2⟩⟩
theorem Wr_sub {s t : List Nat} {h h' : H2} (w : Wr s h h') (hs : ∀ k, k ∈ s → k ∈ t) : Wr t h h' :=
  ⟨fun a i q => w.1 a i (fun z => q (hs _ z)), fun q a i => w.2.1 (fun z => q (hs _ z)) a i, fun q => w.2.2 (fun z => q (hs _ z))⟩
theorem Wr_sI {s : List Nat} {h h' : H2} {a i : Nat} {x : Int32} (w : Wr s h h') (hk : comp a i ∈ s) : Wr s h (sI h' a i x) := by
  refine ⟨fun b j q => ?_, fun q b j => w.2.1 q b j, fun q => w.2.2 q⟩
  rw [hg_sI, if_neg]
  · exact w.1 b j q
  · rintro ⟨rfl, rfl⟩
    exact q hk
theorem Wr_sJ {s : List Nat} {h h' : H2} {a i : Nat} {x : Int64} (w : Wr s h h') (hk : 9 ∈ s) : Wr s h (sJ h' a i x) :=
  ⟨fun b j q => w.1 b j q, fun q => absurd hk q, fun q => w.2.2 q⟩
theorem Wr_hg {s : List Nat} {h h' : H2} (w : Wr s h h') {a i : Nat} (q : comp a i ∉ s) : hg h' a i = hg h a i := w.1 a i q
