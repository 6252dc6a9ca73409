/-! one step is sound -/
theorem ite_s {α : Type} {c : Prop} {i : Decidable c} {x y : Option α} {q : α} (h : (@ite _ c i x y) = some q) : (c ∧ x = some q) ∨ (¬ c ∧ y = some q) := by
  by_cases hc : c
  · rw [if_pos hc] at h
    exact Or.inl ⟨hc, h⟩
  · rw [if_neg hc] at h
    exact Or.inr ⟨hc, h⟩
theorem bif_s {α : Type} {b : Bool} {x : Option α} {q : α} (h : (bif b then x else none) = some q) : b = true ∧ x = some q := by
  cases b
  · cases h
  · exact ⟨rfl, h⟩
theorem if_s {α : Type} {c : Prop} [Decidable c] {x : Option α} {q : α} (h : (if c then none else x) = some q) : ¬ c ∧ x = some q := by
  by_cases hc : c
  · rw [if_pos hc] at h
    cases h
  · rw [if_neg hc] at h
    exact ⟨hc, h⟩
theorem pI_s {α : Type} {st : List Value} {f : Int32 → List Value → Option α} {q : α} (h : pI st none f = some q) : ∃ (x : Int32) (r : List Value), st = .int x :: r ∧ f x r = some q := by
  unfold pI at h
  split at h
  · exact ⟨_, _, rfl, h⟩
  · cases h
theorem pII_s {α : Type} {st : List Value} {f : Int32 → Int32 → List Value → Option α} {q : α} (h : pII st none f = some q) : ∃ (x : Int32) (y : Int32) (r : List Value), st = .int y :: .int x :: r ∧ f x y r = some q := by
  unfold pII at h
  split at h
  · exact ⟨_, _, _, rfl, h⟩
  · cases h
theorem pJ_s {α : Type} {st : List Value} {f : Int64 → List Value → Option α} {q : α} (h : pJ st none f = some q) : ∃ (x : Int64) (r : List Value), st = .long x :: r ∧ f x r = some q := by
  unfold pJ at h
  split at h
  · exact ⟨_, _, rfl, h⟩
  · cases h
theorem pJJ_s {α : Type} {st : List Value} {f : Int64 → Int64 → List Value → Option α} {q : α} (h : pJJ st none f = some q) : ∃ (x : Int64) (y : Int64) (r : List Value), st = .long y :: .long x :: r ∧ f x y r = some q := by
  unfold pJJ at h
  split at h
  · exact ⟨_, _, _, rfl, h⟩
  · cases h
theorem pR_s {α : Type} {st : List Value} {f : Nat → List Value → Option α} {q : α} (h : pR st none f = some q) : ∃ (a : Nat) (r : List Value), st = .ref a :: r ∧ f a r = some q := by
  unfold pR at h
  split at h
  · exact ⟨_, _, rfl, h⟩
  · cases h
theorem pIR_s {α : Type} {st : List Value} {f : Int32 → Nat → List Value → Option α} {q : α} (h : pIR st none f = some q) : ∃ (i : Int32) (a : Nat) (r : List Value), st = .int i :: .ref a :: r ∧ f i a r = some q := by
  unfold pIR at h
  split at h
  · exact ⟨_, _, _, rfl, h⟩
  · cases h
theorem pIIR_s {α : Type} {st : List Value} {f : Int32 → Int32 → Nat → List Value → Option α} {q : α} (h : pIIR st none f = some q) : ∃ (x : Int32) (i : Int32) (a : Nat) (r : List Value), st = .int x :: .int i :: .ref a :: r ∧ f x i a r = some q := by
  unfold pIIR at h
  split at h
  · exact ⟨_, _, _, _, rfl, h⟩
  · cases h
theorem pJR_s {α : Type} {st : List Value} {f : Int64 → Nat → List Value → Option α} {q : α} (h : pJR st none f = some q) : ∃ (x : Int64) (a : Nat) (r : List Value), st = .long x :: .ref a :: r ∧ f x a r = some q := by
  unfold pJR at h
  split at h
  · exact ⟨_, _, _, rfl, h⟩
  · cases h
theorem pRR_s {α : Type} {st : List Value} {f : Nat → Nat → List Value → Option α} {q : α} (h : pRR st none f = some q) : ∃ (v : Nat) (a : Nat) (r : List Value), st = .ref v :: .ref a :: r ∧ f v a r = some q := by
  unfold pRR at h
  split at h
  · exact ⟨_, _, _, rfl, h⟩
  · cases h
theorem pRIR_s {α : Type} {st : List Value} {f : Nat → Int32 → Nat → List Value → Option α} {q : α} (h : pRIR st none f = some q) : ∃ (v : Nat) (i : Int32) (a : Nat) (r : List Value), st = .ref v :: .int i :: .ref a :: r ∧ f v i a r = some q := by
  unfold pRIR at h
  split at h
  · exact ⟨_, _, _, _, rfl, h⟩
  · cases h
theorem pCpy_s {α : Type} {st : List Value} {f : Int32 → Int32 → Nat → Int32 → Nat → List Value → Option α} {q : α} (h : pCpy st none f = some q) : ∃ (n : Int32) (dp : Int32) (a : Nat) (sp : Int32) (a0 : Nat) (r : List Value), st = .int n :: .int dp :: .ref a :: .int sp :: .ref a0 :: r ∧ f n dp a sp a0 r = some q := by
  unfold pCpy at h
  split at h
  · exact ⟨_, _, _, _, _, _, rfl, h⟩
  · cases h
theorem pO_s {α : Type} {st : List Value} {fn : List Value → Option α} {f : Nat → List Value → Option α} {q : α} (h : pO st none fn f = some q) : (∃ r, st = .null :: r ∧ fn r = some q) ∨ ∃ (a : Nat) (r : List Value), st = .ref a :: r ∧ f a r = some q := by
  unfold pO at h
  split at h
  · exact Or.inl ⟨_, rfl, h⟩
  · exact Or.inr ⟨_, _, rfl, h⟩
  · cases h
theorem rI_s {α : Type} {v : Option Value} {f : Int32 → Option α} {q : α} (h : rI v none f = some q) : ∃ x, v = some (.int x) ∧ f x = some q := by
  unfold rI at h
  split at h
  · exact ⟨_, rfl, h⟩
  · cases h
theorem rJ_s {α : Type} {v : Option Value} {f : Int64 → Option α} {q : α} (h : rJ v none f = some q) : ∃ x, v = some (.long x) ∧ f x = some q := by
  unfold rJ at h
  split at h
  · exact ⟨_, rfl, h⟩
  · cases h
theorem rO_s {α : Type} {v : Option Value} {n : Option α} {f : Nat → Option α} {q : α} (h : rO v none n f = some q) : (v = some .null ∧ n = some q) ∨ ∃ x, v = some (.ref x) ∧ f x = some q := by
  unfold rO at h
  split at h
  · exact Or.inl ⟨rfl, h⟩
  · exact Or.inr ⟨_, rfl, h⟩
  · cases h
theorem rV_s {α : Type} {v : Option Value} {n : Option α} {q : α} (h : rV v none n = some q) : v = none ∧ n = some q := by
  unfold rV at h
  split at h
  · exact ⟨rfl, h⟩
  · cases h
theorem oS_s {α S : Type} {v : Option S} {f : S → Option α} {q : α} (h : oS v none f = some q) : ∃ x, v = some x ∧ f x = some q := by
  unfold oS at h
  split at h
  · exact ⟨_, rfl, h⟩
  · cases h
theorem oel_s {α : Type} {v : Option Nat} {n : Option α} {f : Nat → Option α} {q : α} (h : oel v n f = some q) : (v = none ∧ n = some q) ∨ ∃ x, v = some x ∧ f x = some q := by
  unfold oel at h
  split at h
  · exact Or.inl ⟨rfl, h⟩
  · exact Or.inr ⟨_, rfl, h⟩
theorem pD_s {α : Type} {st : List Value} {fI : Int32 → List Value → Option α} {fR : Nat → List Value → Option α} {q : α} (h : pD st none fI fR = some q) : (∃ x r, st = .int x :: r ∧ fI x r = some q) ∨ ∃ x r, st = .ref x :: r ∧ fR x r = some q := by
  unfold pD at h
  split at h
  · exact Or.inl ⟨_, _, rfl, h⟩
  · exact Or.inr ⟨_, _, rfl, h⟩
  · cases h
theorem t4_s {α : Type} {n : Nat} {a1 a2 a3 d : Option α} {q : α} (h : t4 n a1 a2 a3 d = some q) : (n = 1 ∧ a1 = some q) ∨ (n = 2 ∧ a2 = some q) ∨ (n = 3 ∧ a3 = some q) ∨ (n ≠ 1 ∧ n ≠ 2 ∧ n ≠ 3 ∧ d = some q) := by
  unfold t4 at h
  split at h
  · exact Or.inl ⟨rfl, h⟩
  · exact Or.inr (Or.inl ⟨rfl, h⟩)
  · exact Or.inr (Or.inr (Or.inl ⟨rfl, h⟩))
  · rename_i z1 z2 z3
    exact Or.inr (Or.inr (Or.inr ⟨z1, z2, z3, h⟩))
theorem t3_s {α : Type} {n : Nat} {a0 a1 a2 d : Option α} {q : α} (h : t3 n a0 a1 a2 d = some q) : a0 = some q ∨ a1 = some q ∨ a2 = some q ∨ d = some q := by
  unfold t3 at h
  split at h
  · exact Or.inl h
  · exact Or.inr (Or.inl h)
  · exact Or.inr (Or.inr (Or.inl h))
  · exact Or.inr (Or.inr (Or.inr h))
theorem hdR_s {α : Type} {as : List Value} {f : Nat → Option α} {q : α} (h : hdR as none f = some q) : ∃ b t, as = .ref b :: t ∧ f b = some q := by
  unfold hdR at h
  split at h
  · exact ⟨_, _, rfl, h⟩
  · cases h
theorem r1I_s {α : Type} {st : List Value} {f : Int32 → Option α} {q : α} (h : r1I st none f = some q) : ∃ x, st = [.int x] ∧ f x = some q := by
  unfold r1I at h
  split at h
  · exact ⟨_, rfl, h⟩
  · cases h
theorem r1J_s {α : Type} {st : List Value} {f : Int64 → Option α} {q : α} (h : r1J st none f = some q) : ∃ x, st = [.long x] ∧ f x = some q := by
  unfold r1J at h
  split at h
  · exact ⟨_, rfl, h⟩
  · cases h
theorem r1O_s {α : Type} {st : List Value} {n : Option α} {f : Nat → Option α} {q : α} (h : r1O st none n f = some q) : (st = [.null] ∧ n = some q) ∨ ∃ x, st = [.ref x] ∧ f x = some q := by
  unfold r1O at h
  split at h
  · exact Or.inl ⟨rfl, h⟩
  · exact Or.inr ⟨_, rfl, h⟩
  · cases h
theorem r0_s {α : Type} {st : List Value} {n : Option α} {q : α} (h : r0 st none n = some q) : st = [] ∧ n = some q := by
  unfold r0 at h
  split at h
  · exact ⟨rfl, h⟩
  · cases h
theorem xk_s {α : Type} {l : List Nat} {a0 a1 a2 a3 d : Option α} {q : α} (h : xk l a0 a1 a2 a3 d = some q) : (l = [] ∧ a0 = some q) ∨ (l = [1] ∧ a1 = some q) ∨ (l = [2] ∧ a2 = some q) ∨ (l = [3] ∧ a3 = some q) ∨ (l ≠ [] ∧ l ≠ [1] ∧ l ≠ [2] ∧ l ≠ [3] ∧ d = some q) := by
  unfold xk at h
  split at h
  · exact Or.inl ⟨rfl, h⟩
  · exact Or.inr (Or.inl ⟨rfl, h⟩)
  · exact Or.inr (Or.inr (Or.inl ⟨rfl, h⟩))
  · exact Or.inr (Or.inr (Or.inr (Or.inl ⟨rfl, h⟩)))
  · rename_i z1 z2 z3 z4
    exact Or.inr (Or.inr (Or.inr (Or.inr ⟨z1, z2, z3, z4, h⟩)))
theorem nk_s {α : Type} {l : List Nat} {a0 d : Option α} {q : α} (h : nk l a0 d = some q) : (l = [] ∧ a0 = some q) ∨ (l ≠ [] ∧ d = some q) := by
  unfold nk at h
  split at h
  · exact Or.inl ⟨rfl, h⟩
  · rename_i z1
    exact Or.inr ⟨z1, h⟩
theorem tk_s : ∀ {n : Nat} {acc st as r : List Value}, tk n acc st = some (as, r) → ∃ fr, st = fr.reverse ++ r ∧ as = fr ++ acc ∧ fr.length = n
  | 0, acc, st, as, r, h => by
    cases h
    exact ⟨[], rfl, rfl, rfl⟩
  | n + 1, acc, [], as, r, h => by cases h
  | n + 1, acc, v :: st, as, r, h => by
    obtain ⟨fr, h1, h2, h3⟩ := tk_s (n := n) (acc := v :: acc) (st := st) (show tk n (v :: acc) st = some (as, r) from h)
    exact ⟨fr ++ [v], by rw [h1]; simp, by rw [h2]; simp, by simp [h3]⟩
theorem tkm_s {α : Type} {mx n : Nat} {st : List Value} {f : List Value → List Value → Option α} {q : α} (h : tkm mx (tk n [] st) none f = some q) : ∃ as r, st = as.reverse ++ r ∧ as.length = n ∧ csum r ≤ 8 ∧ csum as ≤ mx ∧ f as r = some q := by
  unfold tkm at h
  split at h
  · rename_i a r hq
    obtain ⟨h1, h2⟩ := bif_s h
    simp only [Bool.and_eq_true] at h1
    obtain ⟨fr, e1, e2, e3⟩ := tk_s hq
    rw [List.append_nil] at e2
    subst e2
    exact ⟨a, r, e1, e3, Nat.le_of_ble_eq_true h1.1, Nat.le_of_ble_eq_true h1.2, h2⟩
  · cases h
theorem swt_s {α : Type} {x : Int32} {f : Nat → Option α} {d : Option α} {q : α} : ∀ {l : List (Int32 × Nat)}, swt x l f d = some q → (∃ (j t : Nat), l[j]? = some (x, t) ∧ f t = some q ∧ ∀ (i : Nat), i < j → ∀ (y : Int32 × Nat), l[i]? = some y → y.1 ≠ x) ∨ ((∀ (y : Int32 × Nat), y ∈ l → y.1 ≠ x) ∧ d = some q)
  | [], h => Or.inr ⟨fun _ hy => absurd hy List.not_mem_nil, h⟩
  | (v, t) :: r, h => by
    unfold swt at h
    by_cases hv : x = v
    · rw [if_pos hv] at h
      exact Or.inl ⟨0, t, by rw [hv]; rfl, h, fun i hi => absurd hi (by omega)⟩
    · rw [if_neg hv] at h
      rcases swt_s h with ⟨j, t', h1, h2, h3⟩ | ⟨h1, h2⟩
      · refine Or.inl ⟨j + 1, t', by simpa using h1, h2, fun i hi y hy => ?_⟩
        cases i with
        | zero =>
          simp at hy
          rw [← hy]
          exact fun e => hv e.symm
        | succ i => exact h3 i (by omega) y (by simpa using hy)
      · refine Or.inr ⟨fun y hy => ?_, h2⟩
        rcases List.mem_cons.mp hy with rfl | hy
        · exact fun e => hv e.symm
        · exact h1 y hy
theorem i32_small {k : Int} (h0 : 0 ≤ k) (h1 : k < 1000) : (Int32.ofInt k).toInt = k := by
  rw [Int32.toInt_ofInt]
  rw [Int.bmod_def]
  have : k % 2 ^ 32 = k := by omega
  simp only [Int32.size]
  omega
theorem looko {d : Int} {x : Int32} : ∀ {l : List (Int × Int)}, (∀ o ∈ l, 0 ≤ o.1 ∧ o.1 < 1000) → (∀ y ∈ l, Int32.ofInt y.1 ≠ x) → Op.lookupswitch.offset l d x.toInt = d
  | [], _, _ => rfl
  | (a, o) :: r, hl, h => by
    rw [Op.lookupswitch.offset_cons, if_neg]
    · exact looko (fun o ho => hl o (List.mem_cons_of_mem _ ho)) (fun y hy => h y (List.mem_cons_of_mem _ hy))
    · intro e
      apply h (a, o) List.mem_cons_self
      show Int32.ofInt a = x
      first
        | rw [← e, Int32.ofInt_toInt]
        | rw [e, Int32.ofInt_toInt]
theorem looki {d : Int} {x : Int32} : ∀ {l : List (Int × Int)} {j : Nat} {a o : Int}, (∀ o ∈ l, 0 ≤ o.1 ∧ o.1 < 1000) → l[j]? = some (a, o) → Int32.ofInt a = x → (∀ (i : Nat), i < j → ∀ (y : Int × Int), l[i]? = some y → Int32.ofInt y.1 ≠ x) → Op.lookupswitch.offset l d x.toInt = o
  | [], j, a, o, _, h, _, _ => by simp at h
  | (a', o') :: r, 0, a, o, hl, h, e, _ => by
    simp at h
    obtain ⟨rfl, rfl⟩ := h
    have hh := hl (a', o') List.mem_cons_self
    rw [Op.lookupswitch.offset_cons, if_pos]
    rw [← e, i32_small hh.1 hh.2]
  | (a', o') :: r, j + 1, a, o, hl, h, e, hn => by
    rw [Op.lookupswitch.offset_cons, if_neg]
    · exact looki (fun o ho => hl o (List.mem_cons_of_mem _ ho)) (by simpa using h) e (fun i hi y hy => hn (i + 1) (by omega) y (by simpa using hy))
    · intro e2
      apply hn 0 (by omega) (a', o') rfl
      show Int32.ofInt a' = x
      first
        | rw [← e2, Int32.ofInt_toInt]
        | rw [e2, Int32.ofInt_toInt]
def retOK (ai : AI) (v : Option Value) : Prop := (ai.1 = .ireturn ∧ ∃ x, v = some (.int x) ∧ (ax ai.2.2.1 0 = 0 ∨ b01 x = true)) ∨ (ai.1 = .lreturn ∧ ∃ x, v = some (.long x)) ∨ (ai.1 = .areturn ∧ (v = some .null ∨ ∃ x, v = some (.ref x))) ∨ (ai.1 = .return_ ∧ v = none)
def Cx (G : Gx) (p : Program) (R : Room) (s : State) (m : MethodId) (args : Array Value) (meth : Method) (c : Code) (n0 M : Nat) : Prop := p.tables.exec = Jvm.exec ∧ c.code = (mi M).2.2.1 ∧ c.maxLocals = (mi M).2.2.2.1 ∧ s.vm.findClass (own (mi M).1) = some m.cls ∧ (∀ w ∈ WL, w.before args s = true) ∧ (mi M).2.2.2.2.2.2.1 ≤ R.frames ∧ (mi M).2.2.2.2.2.2.2 ≤ R.locals ∧ ((yM M).name = "<init>" → meth.name = "<init>") ∧ KU G s ∧ s.heap.size + 5 = gB G + n0 ∧ 5 ≤ n0 ∧ ∀ q ∈ cdT M, chkQ (mi M) q = true
def CallGood (M : Nat) (as : List Value) : Prop := M < 271 ∧ (mi M).1 ≠ 15 ∧ csum as ≤ (mi M).2.2.2.1
noncomputable def chkE (e : Nat × Nat × Nat × Nat) : Bool := match e.2.2.2 with
  | 0 => decide (e.2.2.1 ∈ virtM) && !isSt e.2.2.1 statM
  | 1 => decide (e.2.2.1 ∈ statM) && isSt e.2.2.1 statM
  | 3 => decide (e.2.2.1 ∈ statM) && isSt e.2.2.1 statM
  | _ => decide (e.2.2.1 ∈ specM) && (!isSt e.2.2.1 statM && (decide ((yM e.2.2.1).name = "<init>") && decide ((mi e.2.2.1).2.2.2.2.1 = none)))
set_option maxRecDepth 100000 in
theorem ctab_ok : ctab.all chkE = true := by decide +kernel
theorem ckN_all (M : Nat) (h : M < 271) : chkN M = true := by
  have key : ∀ (a n : Nat), (List.range' a n).all chkN = true → a ≤ M → M < a + n → chkN M = true := fun a n hq h1 h2 => List.all_eq_true.mp hq M (List.mem_range'_1.mpr ⟨h1, h2⟩)
  by_cases h0 : M < 40
  · exact key _ _ ckN0 (by omega) (by omega)
  by_cases h40 : M < 80
  · exact key _ _ ckN1 (by omega) (by omega)
  by_cases h80 : M < 120
  · exact key _ _ ckN2 (by omega) (by omega)
  by_cases h120 : M < 160
  · exact key _ _ ckN3 (by omega) (by omega)
  by_cases h160 : M < 200
  · exact key _ _ ckN4 (by omega) (by omega)
  by_cases h200 : M < 240
  · exact key _ _ ckN5 (by omega) (by omega)
  by_cases h240 : M < 271
  · exact key _ _ ckN6 (by omega) (by omega)
  exact absurd h (by omega)
theorem ckM_all (M : Nat) (h : M < 272) : ∀ q ∈ cdT M, chkQ (mi M) q = true := by
  have key : ∀ (a n : Nat), (List.range' a n).all chkM = true → a ≤ M → M < a + n → ∀ q ∈ cdT M, chkQ (mi M) q = true := fun a n hq h1 h2 => List.all_eq_true.mp (List.all_eq_true.mp hq M (List.mem_range'_1.mpr ⟨h1, h2⟩))
  by_cases h0 : M < 10
  · exact key _ _ ckA0 (by omega) (by omega)
  by_cases h10 : M < 20
  · exact key _ _ ckA1 (by omega) (by omega)
  by_cases h20 : M < 30
  · exact key _ _ ckA2 (by omega) (by omega)
  by_cases h30 : M < 40
  · exact key _ _ ckA3 (by omega) (by omega)
  by_cases h40 : M < 50
  · exact key _ _ ckA4 (by omega) (by omega)
  by_cases h50 : M < 60
  · exact key _ _ ckA5 (by omega) (by omega)
  by_cases h60 : M < 70
  · exact key _ _ ckA6 (by omega) (by omega)
  by_cases h70 : M < 80
  · exact key _ _ ckA7 (by omega) (by omega)
  by_cases h80 : M < 90
  · exact key _ _ ckA8 (by omega) (by omega)
  by_cases h90 : M < 100
  · exact key _ _ ckA9 (by omega) (by omega)
  by_cases h100 : M < 110
  · exact key _ _ ckA10 (by omega) (by omega)
  by_cases h110 : M < 120
  · exact key _ _ ckA11 (by omega) (by omega)
  by_cases h120 : M < 130
  · exact key _ _ ckA12 (by omega) (by omega)
  by_cases h130 : M < 140
  · exact key _ _ ckA13 (by omega) (by omega)
  by_cases h140 : M < 150
  · exact key _ _ ckA14 (by omega) (by omega)
  by_cases h150 : M < 160
  · exact key _ _ ckA15 (by omega) (by omega)
  by_cases h160 : M < 170
  · exact key _ _ ckA16 (by omega) (by omega)
  by_cases h170 : M < 180
  · exact key _ _ ckA17 (by omega) (by omega)
  by_cases h180 : M < 190
  · exact key _ _ ckA18 (by omega) (by omega)
  by_cases h190 : M < 200
  · exact key _ _ ckA19 (by omega) (by omega)
  by_cases h200 : M < 210
  · exact key _ _ ckA20 (by omega) (by omega)
  by_cases h210 : M < 220
  · exact key _ _ ckA21 (by omega) (by omega)
  by_cases h220 : M < 230
  · exact key _ _ ckA22 (by omega) (by omega)
  by_cases h230 : M < 240
  · exact key _ _ ckA23 (by omega) (by omega)
  by_cases h240 : M < 250
  · exact key _ _ ckA24 (by omega) (by omega)
  by_cases h250 : M < 260
  · exact key _ _ ckA25 (by omega) (by omega)
  by_cases h260 : M < 270
  · exact key _ _ ckA26 (by omega) (by omega)
  by_cases h270 : M < 271
  · exact key _ _ ckA27 (by omega) (by omega)
  obtain rfl : M = 271 := by omega
  intro q hq
  have e : cdT 271 = cd271 := rfl
  rw [e] at hq
  unfold cd271 at hq
  simp only [List.mem_append] at hq
  rcases hq with hq | hq | hq | hq | hq | hq | hq | hq | hq | hq | hq | hq | hq | hq | hq | hq
  · exact List.all_eq_true.mp ckL0 q hq
  · exact List.all_eq_true.mp ckL1 q hq
  · exact List.all_eq_true.mp ckL2 q hq
  · exact List.all_eq_true.mp ckL3 q hq
  · exact List.all_eq_true.mp ckL4 q hq
  · exact List.all_eq_true.mp ckL5 q hq
  · exact List.all_eq_true.mp ckL6 q hq
  · exact List.all_eq_true.mp ckL7 q hq
  · exact List.all_eq_true.mp ckL8 q hq
  · exact List.all_eq_true.mp ckL9 q hq
  · exact List.all_eq_true.mp ckL10 q hq
  · exact List.all_eq_true.mp ckL11 q hq
  · exact List.all_eq_true.mp ckL12 q hq
  · exact List.all_eq_true.mp ckL13 q hq
  · exact List.all_eq_true.mp ckL14 q hq
  · exact List.all_eq_true.mp ckL15 q hq
