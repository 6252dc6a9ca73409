/-! THE CLAIM OUT OF ONE WALK OF THE LAW'S BODY. Your part is whole_start (and what it stands on); all else here is the same for every law, but numbers. -/
def R_law : String := "DryLandLaw"
def lw_P (b : Addr) (xs : List Int32) (args : Array Value) (s : State) : Prop := args = #[.ref b] ∧ s.IntsAt b xs ∧ xs.length ≤ 4096 ∧ (Jvm.Cond.and given_1 narrow_1).before args s = true
def lw_Q (_ : Array Value) (s : State) (o : Outcome) (t : State) : Prop := o = .returned (some (.int 1)) ∧ Framed s o t [] 600000 7302250
def lw_Z (below : List Frame) (a : Array Value) (s : State) : State → Prop := fun t => ∃ o, t.status = .running ∧ Ended t below o ∧ lw_Q a s o t
/-- the law's own end, with 1 on the stack, nothing written that was there before, its room as the claim has it -/
theorem lw_ret {p : Program} {l : Launch} {e : Env} {s : State} {m : MethodId} {below : List Frame} {meth : Method} {c : Code} {b : Nat} (hx : p.tables.exec = Jvm.exec) (hb : c.code = code) (hr : meth.sig.returnType = ret) (hlocks : meth.locks = false) {pc : Nat} {H : Heap} {ls : Array Slot} (hdg : decode code pc = .ok (.ireturn, 1)) : W p l e room_1 s m #[Value.ref b] below meth c H [] 600000 7302250 (lw_Z below #[Value.ref b] s) (F0 m pc ls [.int 1]) := by
  intro T hT X
  obtain ⟨fs, hret, hrun, hended, hW, hframe⟩ := X.leave (v := some (.int 1)) (hlocks := hlocks) (fun h => by rw [hr] at h; cases h)
  have hmeth' : T.vm.method? m = some meth := X.method'
  refine ⟨T.setFrames fs, ?_, .returned (some (.int 1)), hrun, hended, rfl, ⟨_, rfl⟩, hW, hframe⟩
  jvm_step X.here [X.here.top, hx, hb, hdg, hmeth', hr, ret, narrow_b1]
  (try refine ⟨rfl, ?_⟩); (try refine ⟨rfl, ?_⟩)
  first | (intro acts; rw [hret _ acts rfl rfl rfl]) | rw [hret _ _ rfl rfl rfl]
  exact Steps.refl _
/-- what holds at the law's entry: the machine, the code, the tables' words (any of lw_tbl by 'hts w (by decide +kernel)'), the script of L ints xs at the cell b, what the Statement gives of the start (any of its parts by flat_of_before) -/
def lw_At (p : Program) (s : State) (m : MethodId) (meth : Method) (c : Code) (b L : Nat) (xs : Nat → Int32) : Prop :=
  p.tables.exec = Jvm.exec ∧ c.code = code ∧ meth.sig.returnType = ret ∧ c.maxLocals = 4 ∧ s.vm.findClass R_law = some m.cls ∧ (∀ w ∈ lw_tbl, w.before #[Value.ref b] s = true) ∧ va_X b L xs s s.heap ∧ b < s.heap.size ∧ meth.locks = false ∧ (Jvm.Cond.and given_1 narrow_1).before #[Value.ref b] s = true
/-! the start: what the Statement gives, and the way to the loop's head -/
set_option maxRecDepth 100000 in
theorem nest_p : nestL.map nestW = plc [542, 774, 948, 574, 683, 865, 451, 424, 647, 1016, 65, 92, 109, 125, 165, 191, 229, 280, 297, 350] := by rfl
theorem eq_val {args : Array Value} {s : State} {a : Term} {n : Int32} (h : (Cond.eq a (.int n)).before args s = true) : a.eval args s none [] s = some (.int n) := by
  obtain ⟨w, h1, h2⟩ := Cond.eq_one (show (Cond.eq a (.int n)).holds args s none s [] = true from h)
  have e : (Term.int n).eval args s none [] s = some (.int n) := rfl
  cases e.symm.trans h2
  exact h1
theorem st_row {args : Array Value} {s : State} {nm : String} {N : Nat} {f : Nat → Int32} {A : Nat → Prop} (hN : N < 2 ^ 31) (harr : (Cond.arrayOf (.static "DryLand$Reader" nm "[I") .int).before args s = true) (hlen : (Cond.eq (.length (.static "DryLand$Reader" nm "[I")) (.int (Int32.ofNat N))).before args s = true) (hel : ∀ j : Nat, j < N → (Cond.eq (.elem (.static "DryLand$Reader" nm "[I") (.int (Int32.ofNat j))) (.int (f j))).before args s = true)
    (hl : (Cond.laysStatic "DryLand$Reader" nm "[I").before args s = true) (hini : (Cond.initialized "DryLand$Reader").before args s = true) (hA : ∀ a : Nat, a < s.heap.size → ¬ A a) : ∃ t : Nat, va_T .int t N (fun i => .int (f i)) A s s.heap ∧ va_Z "DryLand$Reader" nm "[I" (.ref t) A s s.heap := by
  obtain ⟨t, h1, h2⟩ := va_Tof (f := fun i => .int (f i)) hN harr (eq_val hlen) (fun j hj => eq_val (hel j hj)) hA
  exact ⟨t, h2, va_Zof hl hini h1 hA⟩
theorem va_T_of_X {b L : Nat} {xs : Nat → Int32} {s : State} {A : Nat → Prop} (hX : va_X b L xs s s.heap) (hA : ∀ a : Nat, a < s.heap.size → ¬ A a) : va_T .int b L (fun i => .int (xs i)) A s s.heap := by
  obtain ⟨scr, h1, h2, h3, h4, h5⟩ := hX
  exact ⟨scr, h1, h2, h3, Nat.le_of_eq h4.symm, by rw [h4], h5, hA b (Array.getElem?_eq_some_iff.mp h1).1⟩
set_option maxHeartbeats 4000000 in
set_option maxRecDepth 100000 in
theorem start_K {args : Array Value} {s : State} {b L : Nat} {xs : Nat → Int32} (hts : ∀ w ∈ lw_tbl, w.before args s = true) (hX : va_X b L xs s s.heap) (hgv : (Jvm.Cond.and given_1 narrow_1).before args s = true) (θ : Nat) : ∃ (sa : Nat → Nat) (D : va_G) (cI cZ cN cA : ClassId), sa 0 = b ∧ KU (L, xs, θ, s.heap.size, sa, D, cI, cZ, cN, cA) s := by
  have hW : ∀ w ∈ WL, w.before args s = true := fun w h => hts w (WL_in w h)
  have hk : ∀ ci : Nat, ∃ q : ClassId × (Nat → Nat), ci < 13 → u_Kn s (clT ci).1 (clT ci).2.1 (clT ci).2.2 q.1 q.2 := by
    intro ci
    by_cases h : ci < 13
    · have hi : ∀ c, c < 13 → ∃ e, e ∈ ntab ∧ e.2.2 = c := by decide +kernel
      obtain ⟨e, he, rfl⟩ := hi ci h
      obtain ⟨cC, iS, q⟩ := u_known (C := (clT e.2.2).1) (T := (clT e.2.2).2.1) (N := (clT e.2.2).2.2) hW (clI h) (hW _ (in_WLh (List.mem_flatMap.mpr ⟨e, he, List.mem_cons_of_mem _ List.mem_cons_self⟩)))
      exact ⟨(cC, iS), fun _ => q⟩
    · exact ⟨(0, fun _ => 0), fun q => absurd q h⟩
  have hA : ∀ a : Nat, a < s.heap.size → ¬ (fun q : Nat => s.heap.size ≤ q) a := fun a h => Nat.not_le.mpr h
  obtain ⟨cI, kI, compI, i1, i2, i3⟩ := Cond.arrayClass_spec (hW (.arrayClass .int) (in_WLm (List.mem_append_left _ List.mem_cons_self)))
  obtain ⟨cZ, kZ, compZ, z1, z2, z3⟩ := Cond.arrayClass_spec (hW (.arrayClass .boolean) (in_WLm (List.mem_append_left _ (List.mem_cons_of_mem _ List.mem_cons_self))))
  have hoL := hts (.arrayOver (.object "DryLand$Line")) (List.mem_of_getElem? (i := 114) rfl)
  have hoA := hts (.arrayOver (.array .int)) (List.mem_of_getElem? (i := 70) rfl)
  obtain ⟨compN, cN, kN, n1, n2, n3, n4, n5⟩ := Cond.arrayOver_spec hoL
  obtain ⟨compA, cA, kA, a1, a2, a3, a4, a5⟩ := arrayOverA_spec hoA
  have hs := flat_of_before _ hgv
  have hini := hW _ (ini_in (c := "DryLand$Reader") (by decide))
  obtain ⟨t1, r1, y1⟩ := st_row (args := args) (s := s) (nm := "VERBS") (N := 4) (f := stv xs 1) (A := fun q : Nat => s.heap.size ≤ q) (by decide) (hs _ (by decide +kernel)) (hs _ (by decide +kernel)) (fun j hj => by
    match j, hj with
    | 0, _ => exact hs (Cond.eq (.elem (.static "DryLand$Reader" "VERBS" "[I") (.int 0)) (.int 109)) (by decide +kernel)
    | 1, _ => exact hs (Cond.eq (.elem (.static "DryLand$Reader" "VERBS" "[I") (.int 1)) (.int 115)) (by decide +kernel)
    | 2, _ => exact hs (Cond.eq (.elem (.static "DryLand$Reader" "VERBS" "[I") (.int 2)) (.int 99)) (by decide +kernel)
    | 3, _ => exact hs (Cond.eq (.elem (.static "DryLand$Reader" "VERBS" "[I") (.int 3)) (.int 107)) (by decide +kernel)
    | j + 4, hj => exact absurd hj (by omega)) (hts _ (List.mem_of_getElem? (i := 495) rfl)) hini hA
  obtain ⟨t2, r2, y2⟩ := st_row (args := args) (s := s) (nm := "KINDS") (N := 5) (f := stv xs 2) (A := fun q : Nat => s.heap.size ≤ q) (by decide) (hs _ (by decide +kernel)) (hs _ (by decide +kernel)) (fun j hj => by
    match j, hj with
    | 0, _ => exact hs (Cond.eq (.elem (.static "DryLand$Reader" "KINDS" "[I") (.int 0)) (.int 48)) (by decide +kernel)
    | 1, _ => exact hs (Cond.eq (.elem (.static "DryLand$Reader" "KINDS" "[I") (.int 1)) (.int 49)) (by decide +kernel)
    | 2, _ => exact hs (Cond.eq (.elem (.static "DryLand$Reader" "KINDS" "[I") (.int 2)) (.int 50)) (by decide +kernel)
    | 3, _ => exact hs (Cond.eq (.elem (.static "DryLand$Reader" "KINDS" "[I") (.int 3)) (.int 51)) (by decide +kernel)
    | 4, _ => exact hs (Cond.eq (.elem (.static "DryLand$Reader" "KINDS" "[I") (.int 4)) (.int 42)) (by decide +kernel)
    | j + 5, hj => exact absurd hj (by omega)) (hts _ (List.mem_of_getElem? (i := 505) rfl)) hini hA
  obtain ⟨t3, r3, y3⟩ := st_row (args := args) (s := s) (nm := "DIGITS") (N := 10) (f := stv xs 3) (A := fun q : Nat => s.heap.size ≤ q) (by decide) (hs _ (by decide +kernel)) (hs _ (by decide +kernel)) (fun j hj => by
    match j, hj with
    | 0, _ => exact hs (Cond.eq (.elem (.static "DryLand$Reader" "DIGITS" "[I") (.int 0)) (.int 48)) (by decide +kernel)
    | 1, _ => exact hs (Cond.eq (.elem (.static "DryLand$Reader" "DIGITS" "[I") (.int 1)) (.int 49)) (by decide +kernel)
    | 2, _ => exact hs (Cond.eq (.elem (.static "DryLand$Reader" "DIGITS" "[I") (.int 2)) (.int 50)) (by decide +kernel)
    | 3, _ => exact hs (Cond.eq (.elem (.static "DryLand$Reader" "DIGITS" "[I") (.int 3)) (.int 51)) (by decide +kernel)
    | 4, _ => exact hs (Cond.eq (.elem (.static "DryLand$Reader" "DIGITS" "[I") (.int 4)) (.int 52)) (by decide +kernel)
    | 5, _ => exact hs (Cond.eq (.elem (.static "DryLand$Reader" "DIGITS" "[I") (.int 5)) (.int 53)) (by decide +kernel)
    | 6, _ => exact hs (Cond.eq (.elem (.static "DryLand$Reader" "DIGITS" "[I") (.int 6)) (.int 54)) (by decide +kernel)
    | 7, _ => exact hs (Cond.eq (.elem (.static "DryLand$Reader" "DIGITS" "[I") (.int 7)) (.int 55)) (by decide +kernel)
    | 8, _ => exact hs (Cond.eq (.elem (.static "DryLand$Reader" "DIGITS" "[I") (.int 8)) (.int 56)) (by decide +kernel)
    | 9, _ => exact hs (Cond.eq (.elem (.static "DryLand$Reader" "DIGITS" "[I") (.int 9)) (.int 57)) (by decide +kernel)
    | j + 10, hj => exact absurd hj (by omega)) (hts _ (List.mem_of_getElem? (i := 515) rfl)) hini hA
  obtain ⟨t4, r4, y4⟩ := st_row (args := args) (s := s) (nm := "LETTERS") (N := 4) (f := stv xs 4) (A := fun q : Nat => s.heap.size ≤ q) (by decide) (hs _ (by decide +kernel)) (hs _ (by decide +kernel)) (fun j hj => by
    match j, hj with
    | 0, _ => exact hs (Cond.eq (.elem (.static "DryLand$Reader" "LETTERS" "[I") (.int 0)) (.int 100)) (by decide +kernel)
    | 1, _ => exact hs (Cond.eq (.elem (.static "DryLand$Reader" "LETTERS" "[I") (.int 1)) (.int 112)) (by decide +kernel)
    | 2, _ => exact hs (Cond.eq (.elem (.static "DryLand$Reader" "LETTERS" "[I") (.int 2)) (.int 101)) (by decide +kernel)
    | 3, _ => exact hs (Cond.eq (.elem (.static "DryLand$Reader" "LETTERS" "[I") (.int 3)) (.int 118)) (by decide +kernel)
    | j + 4, hj => exact absurd hj (by omega)) (hts _ (List.mem_of_getElem? (i := 529) rfl)) hini hA
  refine ⟨fun k => match k with
    | 0 => b
    | 1 => t1
    | 2 => t2
    | 3 => t3
    | _ => t4, (fun c => (hk c).choose.1, fun c => (hk c).choose.2), cI, cZ, cN, cA, rfl, ⟨fun c q hq => ?_, fun k q hq => ?_⟩, fun e he => ?_, hoL, ⟨kA, a3, ?_⟩, fun k hk5 => ?_, fun k hk0 hk5 => ?_⟩
  · have hc : c < 13 := by
      have := (List.getElem?_eq_some_iff.mp hq).1
      exact this
    rw [clT_at hc] at hq
    cases hq
    exact (hk c).choose_spec hc
  · match k, hq with
    | 0, hq =>
      cases hq
      exact ⟨fun n z => ⟨fun k h => (by cases h), kI, i2, compI, i3⟩, i1⟩
    | 1, hq =>
      cases hq
      exact ⟨fun n z => ⟨fun k h => (by cases h), kZ, z2, compZ, z3⟩, z1⟩
    | 2, hq =>
      cases hq
      exact ⟨fun n z => ⟨fun k h => (by cases h), kN, n3, compN, n4⟩, kN, compN, n3, n4, n1, n5⟩
    | 3, hq =>
      cases hq
      exact ⟨fun n z => ⟨fun k h => (by cases h), kA, a3, compA, a4⟩, a5⟩
    | k + 4, hq => cases hq
  · have hw : nestW e ∈ lw_tbl := plc_in nest_p _ (List.mem_map.mpr ⟨e, he, rfl⟩)
    exact va_Nw.of rfl (hts _ hw)
  · have e1 : some compA = some cI := a1.symm.trans i1
    rw [a4, Option.some.inj e1]
  · match k, hk5 with
    | 0, _ => exact va_T_of_X hX hA
    | 1, _ => exact r1
    | 2, _ => exact r2
    | 3, _ => exact r3
    | 4, _ => exact r4
    | k + 5, h => exact absurd h (by omega)
  · match k, hk0, hk5 with
    | 1, _, _ => exact y1
    | 2, _, _ => exact y2
    | 3, _, _ => exact y3
    | 4, _, _ => exact y4
    | k + 5, _, h => exact absurd h (by omega)
def I0a : Nat → Nat → Int32 := sU (sU (sU (sU (sU (sU (sU ((fun _ _ => (0 : Int32))) 12 ((0 : Int32)).toNatClampNeg (-1 : Int32)) 12 ((1 : Int32)).toNatClampNeg (-1 : Int32)) 12 ((2 : Int32)).toNatClampNeg (-1 : Int32)) 12 ((3 : Int32)).toNatClampNeg (-1 : Int32)) 74 5 (1 : Int32)) 74 6 (300 : Int32)) 5 10 (3 : Int32)
def J0a : Nat → Nat → Int64 := upJ (upJ (upJ ((fun _ _ => (0 : Int64))) 74 10 1) 74 11 1) 74 12 1
def I0 : Nat → Nat → Int32 := sU (sU (sU (sU (sU (sU (sU I0a 87 ((0 : Int32)).toNatClampNeg (-9 : Int32)) 87 ((1 : Int32)).toNatClampNeg (-9 : Int32)) 87 ((2 : Int32)).toNatClampNeg (-9 : Int32)) 87 ((3 : Int32)).toNatClampNeg (-9 : Int32)) 86 59 (1 : Int32)) 86 60 (300 : Int32)) 86 70 (3 : Int32)
/-- the state at the loop's head, when it is first come to -/
def hh0 : H2 := (137, I0, J0a, fun _ => none)
theorem fnd_none : ∀ (l : List (Nat × Nat × Nat)) (a i : Nat), (∀ e ∈ l, ¬ (e.1 = a ∧ e.2.1 = i)) → fnd l a i = none
  | [], _, _, _ => rfl
  | (x, y, v) :: t, a, i, h => by
    show (match fnd t a i with
      | some w => some w
      | none => bif Nat.beq x a && Nat.beq y i then some v else none) = none
    rw [fnd_none t a i (fun e he => h e (List.mem_cons_of_mem _ he))]
    show (bif Nat.beq x a && Nat.beq y i then some v else none) = none
    cases hq : (Nat.beq x a && Nat.beq y i) with
    | false => rfl
    | true =>
      simp only [Bool.and_eq_true] at hq
      exact absurd ⟨nbeq hq.1, nbeq hq.2⟩ (h _ List.mem_cons_self)
theorem gn_ge : ∀ (l : List Nat) (i : Nat), l.length ≤ i → gn l i = 0
  | [], _, _ => rfl
  | _ :: t, 0, h => absurd h (by simp)
  | _ :: t, i + 1, h => gn_ge t i (by simpa using h)
theorem gll_ge : ∀ (l : List (List Nat)) (i : Nat), l.length ≤ i → gll l i = []
  | [], _, _ => rfl
  | _ :: t, 0, h => absurd h (by simp)
  | _ :: t, i + 1, h => gll_ge t i (by simpa using h)
theorem gll_len (n : Nat) : ∀ (l : List (List Nat)) (i : Nat), (∀ r ∈ l, r.length ≤ n) → (gll l i).length ≤ n
  | [], _, _ => Nat.zero_le _
  | a :: _, 0, h => h a List.mem_cons_self
  | _ :: t, i + 1, h => gll_len n t i (fun r hr => h r (List.mem_cons_of_mem _ hr))
theorem fnd_mem : ∀ (l : List (Nat × Nat × Nat)) (a i v : Nat), fnd l a i = some v → (a, i, v) ∈ l
  | [], _, _, _, h => by cases h
  | (x, y, w) :: t, a, i, v, h => by
    have h : (match fnd t a i with
      | some w => some w
      | none => bif Nat.beq x a && Nat.beq y i then some w else none) = some v := h
    cases hq : fnd t a i with
    | some u =>
      rw [hq] at h
      cases h
      exact List.mem_cons_of_mem _ (fnd_mem t a i _ hq)
    | none =>
      rw [hq] at h
      obtain ⟨h1, h2⟩ := bif_s h
      cases h2
      simp only [Bool.and_eq_true] at h1
      rw [nbeq h1.1, nbeq h1.2]
      exact List.mem_cons_self
set_option maxRecDepth 100000 in
theorem rw_all : Rw.all (fun e => !Nat.beq e.1 18 && decide (Rc e.1 e.2.1 = some e.2.2)) = true := by decide +kernel
set_option maxRecDepth 100000 in
theorem rt_all : (List.range 137).all (fun a => (List.range (gll Rt a).length).all (fun i => Nat.beq (gn (gll Rt a) i) 0 || (fnd Rw a i).isSome)) = true := by decide +kernel
set_option maxRecDepth 100000 in
theorem rt_len : Rt.length ≤ 137 := by decide +kernel
theorem rd_eq (a i : Nat) : rd1 130 a i = rd2 (fun _ => none) a i := by
  have e : Rw.take 130 = Rw := by rfl
  unfold rd1 rd2
  rw [e]
  cases hf : fnd Rw a i with
  | some v =>
    have := List.all_eq_true.mp rw_all _ (fnd_mem Rw a i v hf)
    simp only [Bool.and_eq_true, Bool.not_eq_true', decide_eq_true_eq] at this
    rw [this.1]
    exact this.2.symm
  | none =>
    cases hq : Nat.beq a 18 with
    | true => rfl
    | false =>
      show none = Rc a i
      have hz : gn (gll Rt a) i = 0 := by
        by_cases h1 : a < 137
        · by_cases h2 : i < (gll Rt a).length
          · have := List.all_eq_true.mp (List.all_eq_true.mp rt_all a (List.mem_range.mpr h1)) i (List.mem_range.mpr h2)
            rw [hf] at this
            simp only [Option.isSome_none, Bool.or_false] at this
            exact nbeq this
          · exact gn_ge _ _ (by omega)
        · rw [gll_ge Rt a (Nat.le_trans rt_len (by omega))]
          rfl
      unfold Rc
      rw [hz]
theorem szs_240 (L : Nat) : ∀ k, szs L (5 + k) ≤ szs L 5 + 240 * k
  | 0 => Nat.le_refl _
  | k + 1 => by
    have h1 := szs_240 L k
    have h2 := shT_le (L := L) (a := 5 + k) (by omega)
    show szs L (5 + k) + (shT L (5 + k)).2 ≤ _
    omega
set_option maxHeartbeats 8000000 in
set_option maxRecDepth 100000 in
theorem start_of (HL : ∀ (L : Nat) (xs : Nat → Int32), L ≤ 4096 → E (L, xs) 271 18 [some (.ref 0), some (.ref 5), some (.ref 86), some (.int 0)] [] hh0 (fun v h' => v = some (.int 1) ∧ h'.1 ≤ 1000)) {p : Program} {e : Env} {s : State} {m : MethodId} {below : List Frame} {meth : Method} {c : Code} (l : Launch) {b L : Nat} {xs : Nat → Int32} (hL : L ≤ 4096) (C0 : lw_At p s m meth c b L xs) :
    W p l e room_1 s m #[Value.ref b] below meth c s.heap [] 0 0 (lw_Z below #[Value.ref b] s) (entryFrame m ([Value.ref b] : List Value).toArray 4) := by
  obtain ⟨hx, hb, hr, hml, hown, hts, hX, hbl, hlocks, hgv⟩ := C0
  obtain ⟨sa, D, cI, cZ, cN, cA, hsa, hK⟩ := start_K hts hX hgv 0
  have hW : ∀ w ∈ WL, w.before #[Value.ref b] s = true := fun w h => hts w (WL_in w h)
  have hs : s.heap.size + 5 = gB (L, xs, 0, s.heap.size, sa, D, cI, cZ, cN, cA) + 5 := rfl
  have hown' : s.vm.findClass (own 13) = some m.cls := hown
  -- from the loop's head on
  have tail : Wst rd2 (L, xs, 137, s.heap.size, sa, D, cI, cZ, cN, cA) p l e room_1 s m #[Value.ref b] below meth c 5 4 (lw_Z below #[Value.ref b] s) hh0 18 [some (.ref 0), some (.ref 5), some (.ref 86), some (.int 0)] [] := by
    obtain ⟨n, v, h', hrun, rfl, hle⟩ := HL L xs hL
    have hsz := szs_240 L (h'.1 - 5)
    have hn := run_n _ _ _ _ _ _ _ hrun
    have hn : 137 ≤ h'.1 := hn
    rw [show 5 + (h'.1 - 5) = h'.1 by omega] at hsz
    have hc1 : h'.1 - 5 ≤ 600000 := by omega
    have hc2 : szs L h'.1 - szs L 5 ≤ 7302250 := by omega
    refine snd_all (G := (L, xs, 137, s.heap.size, sa, D, cI, cZ, cN, cA)) (l := l) hwr2 n 271 18 _ [] hh0 _ h' hrun p e room_1 s m #[Value.ref b] below meth c 5 _ ⟨hx, hb, hml, hown, hW, by decide +kernel, by decide +kernel, fun z => absurd z (by decide), hK, hs, Nat.le_refl _, ckM_all 271 (by decide)⟩ hc1 hc2 (fun pc ls ai hmem hret => ?_)
    intro hn0 H locs cls hR hS hL'
    obtain ⟨i, len, a, sw⟩ := ai
    rcases hret with ⟨hi, -⟩ | ⟨-, x, hv⟩ | ⟨-, hv⟩ | ⟨-, hv⟩
    · have hi : i = .ireturn := hi
      subst hi
      have hq := ckM_all 271 (by decide) _ hmem
      unfold chkQ at hq
      simp only [Bool.and_eq_true, decide_eq_true_eq] at hq
      obtain ⟨hd, hchk⟩ := hq
      unfold chkI at hchk
      simp only [Bool.and_eq_true] at hchk
      obtain rfl := nbeq hchk.1
      refine va_forget (fun q hq => hS.2.2 q hq) ?_
      refine W.widen (k := 600000) (n := 7302250) hc1 hc2 ?_
      exact lw_ret hx hb hr hlocks hd
    · cases hv
    · rcases hv with z | ⟨x, z⟩ <;> cases z
    · cases hv
  -- the way there
  have head : Wst rd1 (L, xs, 0, s.heap.size, sa, D, cI, cZ, cN, cA) p l e room_1 s m #[Value.ref b] below meth c 5 4 (lw_Z below #[Value.ref b] s) (137, I0, J0a, 130) 18 [some (.ref 0), some (.ref 5), some (.ref 86), some (.int 0)] [] := by
    intro hn H locs cls hR hS hL'
    refine tail hn H locs cls ⟨hR.1, Nat.le_refl _, ?_, ?_⟩ hS hL'
    · have ew : wld rd1 (L, xs, 0, s.heap.size, sa, D, cI, cZ, cN, cA) (137, I0, J0a, 130) = wld rd2 (L, xs, 137, s.heap.size, sa, D, cI, cZ, cN, cA) hh0 := by
        have er : rd1 130 = rd2 (fun _ => none) := funext fun a => funext fun i => rd_eq a i
        unfold wld cellE fds fld hh0
        simp only [er]
        rfl
      rw [← ew]
      exact hR.2.2.1
    · intro a ha i
      have := hR.2.2.2 a ha i
      exact ⟨this.1, this.2.1, by show rd2 (fun _ => none) a i = none; rw [← rd_eq]; exact this.2.2⟩
  have z240 := szs_240 L
  have r6 : szs L 6 ≤ szs L 5 + 240 * 1 := z240 1
  have r86 : szs L 86 ≤ szs L 5 + 240 * 81 := z240 81
  have r87 : szs L 87 ≤ szs L 5 + 240 * 82 := z240 82
  have r137 : szs L 137 ≤ szs L 5 + 240 * 132 := z240 132
  obtain ⟨v2, h2, ⟨rfl, rfl⟩, hle2, hM2⟩ := met_ev (rd := rd1) (wr := wr1) (G := (L, xs, 0, s.heap.size, sa, D, cI, cZ, cN, cA)) (l := l) hwr1 (M := 165) (as := [.ref 86]) (h := (87, I0a, J0a, 80)) (P := fun v h' => v = none ∧ h' = (137, I0, J0a, 130)) ⟨by decide, by decide +kernel, by decide +kernel⟩ ((k165 (L, xs) I0a J0a _).mpr ⟨rfl, rfl⟩)
  obtain ⟨v1, h1, ⟨rfl, rfl⟩, hle1, hM1⟩ := met_ev (rd := rd1) (wr := wr1) (G := (L, xs, 0, s.heap.size, sa, D, cI, cZ, cN, cA)) (l := l) hwr1 (M := 107) (as := [.ref 5]) (h := (6, (fun _ _ => 0), (fun _ _ => 0), 0)) (P := fun v h' => v = none ∧ h' = (86, I0a, J0a, 80)) ⟨by decide, by decide +kernel, by decide +kernel⟩ ((k107 (L, xs) _ _ _).mpr ⟨rfl, rfl⟩)
  have s17 := w_istore_n (rd := rd1) (r := []) (ls := [some (.ref 0), some (.ref 5), some (.ref 86), none]) (j := 3) (x := 0) hx hb (show decode code 17 = .ok (.istore_n 3, 1) from by decide +kernel) (by decide) rfl head
  have s16 := w_iconst (rd := rd1) (r := []) hx hb (show decode code 16 = .ok (.iconst 0, 1) from by decide +kernel) (v := 0) (by decide) s17
  have s15 := w_astore_n (rd := rd1) (r := []) (ls := [some (.ref 0), some (.ref 5), none, none]) (j := 2) (x := 86) hx hb (show decode code 15 = .ok (.astore_n 2, 1) from by decide +kernel) (by decide) rfl s16
  have s12 := w_spec (rd := rd1) (oc := 13) (M' := 165) (ix := 12) (b := 86) (as := []) (r := [.ref 86]) (v := none) (h := (87, I0a, J0a, 80)) (h' := (137, I0, J0a, 130)) (pc := 12) hx hb hml hW hown' hK hs (Nat.le_refl _) (Or.inl (by decide +kernel)) (by decide +kernel) (by decide +kernel) (by decide +kernel) (by decide +kernel) ⟨by decide +kernel, by decide +kernel, by decide, ckN_all 165 (by decide), by decide +kernel⟩ (by decide +kernel) (by decide) (by decide) (by decide) (show szs L 137 - szs L 5 ≤ 7302250 by omega) hM2 (show decode code 12 = .ok (.invokespecial 12, 3) from by decide +kernel) s15
  have s11 := w_dupR (rd := rd1) (r := []) (x := 86) hx hb (show decode code 11 = .ok (.dup, 1) from by decide +kernel) s12
  have s8 := w_new (rd := rd1) (oc := 13) (ix := 10) (ci := 12) (h := (86, I0a, J0a, 80)) (r := []) (pc := 8) hx hb hW hown' hK hs (Nat.le_refl _) (by decide +kernel) (by decide) rfl (by decide) (show szs L 87 - szs L 5 ≤ 7302250 by omega) (show decode code 8 = .ok (.new 10, 3) from by decide +kernel) s11
  have s7 := w_astore_n (rd := rd1) (r := []) (ls := [some (.ref 0), none, none, none]) (j := 1) (x := 5) hx hb (show decode code 7 = .ok (.astore_n 1, 1) from by decide +kernel) (by decide) rfl s8
  have s4 := w_spec (rd := rd1) (oc := 13) (M' := 107) (ix := 9) (b := 5) (as := []) (r := [.ref 5]) (v := none) (h := (6, (fun _ _ => 0), (fun _ _ => 0), 0)) (h' := (86, I0a, J0a, 80)) (pc := 4) hx hb hml hW hown' hK hs (Nat.le_refl _) (Or.inl (by decide +kernel)) (by decide +kernel) (by decide +kernel) (by decide +kernel) (by decide +kernel) ⟨by decide +kernel, by decide +kernel, by decide, ckN_all 107 (by decide), by decide +kernel⟩ (by decide +kernel) (by decide) (by decide) (by decide) (show szs L 86 - szs L 5 ≤ 7302250 by omega) hM1 (show decode code 4 = .ok (.invokespecial 9, 3) from by decide +kernel) s7
  have s3 := w_dupR (rd := rd1) (r := []) (x := 5) hx hb (show decode code 3 = .ok (.dup, 1) from by decide +kernel) s4
  have s0 := w_new (rd := rd1) (oc := 13) (ix := 7) (ci := 11) (h := (5, (fun _ _ => 0), (fun _ _ => 0), 0)) (r := []) (pc := 0) hx hb hW hown' hK hs (Nat.le_refl _) (by decide +kernel) (by decide) rfl (by decide) (show szs L 6 - szs L 5 ≤ 7302250 by omega) (show decode code 0 = .ok (.new 7, 3) from by decide +kernel) s3
  have hl := lv_entry ([.ref b]) (n := 4) (Nat.le_of_ble_eq_true rfl)
  rw [lg_entry_eq]
  generalize (lg_sl ([.ref b]) ++ List.replicate (4 - (lg_sl ([.ref b])).length) Slot.unset).toArray = cls at hl ⊢
  have hLR : LRel (L, xs, 0, s.heap.size, sa, D, cI, cZ, cN, cA) cls 4 [some (.ref 0), none, none, none] := ⟨hl.1, hl.2.1, fun i w hw => by
    match i, hw with
    | 0, hw =>
      cases hw
      have := hl.2.2 (0, .ref b) List.mem_cons_self
      show cls[0]? = some (.val (.ref (phi _ 0)))
      rw [phi_lt (by decide)]
      show cls[0]? = some (.val (.ref (sa 0)))
      rw [hsa]
      exact this
    | 1, hw => cases hw
    | 2, hw => cases hw
    | 3, hw => cases hw
    | i + 4, hw => cases hw⟩
  have fin := s0 (Nat.le_refl _) s.heap [] cls ⟨Nat.le_refl _, Nat.zero_le _, (fun k q hk => absurd hk (by simp [wld])), (fun a _ i => ⟨rfl, rfl, rfl⟩)⟩ va_S.rf hLR
  exact W.cs (by decide) (show 0 = szs L 5 - szs L 5 by omega) fin
