/-! rows of instructions on the machine's states -/
theorem gl_sl : ∀ (ls : LV) (i j : Nat) (x : Option Value), gl (sl ls i x) j = if j = i then x else gl ls j
  | [], 0, 0, x => rfl
  | [], 0, j + 1, x => by rw [if_neg (by omega)]; rfl
  | [], i + 1, 0, x => by rw [if_neg (by omega)]; rfl
  | [], i + 1, j + 1, x => by
    show gl (sl [] i x) j = _
    rw [gl_sl [] i j x]
    by_cases h : j = i
    · rw [if_pos h, if_pos (by omega)]
    · rw [if_neg h, if_neg (by omega)]; rfl
  | _ :: t, 0, 0, x => rfl
  | _ :: t, 0, j + 1, x => by rw [if_neg (by omega)]; rfl
  | a :: t, i + 1, 0, x => by rw [if_neg (by omega)]; rfl
  | a :: t, i + 1, j + 1, x => by
    show gl (sl t i x) j = _
    rw [gl_sl t i j x]
    by_cases h : j = i
    · rw [if_pos h, if_pos (by omega)]
    · rw [if_neg h, if_neg (by omega)]; rfl
theorem phv_cat (G : Gx) (v : Value) : (phv G v).category = v.category := by cases v <;> rfl
def LRel (G : Gx) (cls : Array Slot) (nL : Nat) (ls : LV) : Prop := cls.size = nL ∧ lv_wf cls ∧ ∀ (i : Nat) (v : Value), gl ls i = some v → cls[i]? = some (.val (phv G v))
def lvA (G : Gx) (ls : LV) (nL : Nat) : List (Nat × Value) := (List.range nL).filterMap (fun j => (gl ls j).map (fun v => (j, phv G v)))
theorem lvA_in {G : Gx} {ls : LV} {nL j : Nat} {v : Value} (h : gl ls j = some v) (hj : j < nL) : (j, phv G v) ∈ lvA G ls nL := by
  unfold lvA
  exact List.mem_filterMap.mpr ⟨j, List.mem_range.mpr hj, by rw [h]; rfl⟩
theorem lvA_has {G : Gx} {cls : Array Slot} {nL : Nat} {ls : LV} (h : LRel G cls nL ls) : lv_has cls nL (lvA G ls nL) := by
  refine ⟨h.1, h.2.1, fun q hq => ?_⟩
  obtain ⟨j, -, hj⟩ := List.mem_filterMap.mp hq
  cases hg : gl ls j with
  | none => rw [hg] at hj; cases hj
  | some v =>
    rw [hg] at hj
    cases hj
    exact h.2.2 j v hg
theorem LRel.lt {G : Gx} {cls : Array Slot} {nL : Nat} {ls : LV} (h : LRel G cls nL ls) {j : Nat} {v : Value} (hj : gl ls j = some v) : j < nL := by
  have := lv_lt (h.2.2 j v hj)
  rw [h.1] at this
  exact this
theorem nl_cat {ls : LV} {i j : Nat} {v : Value} (h : nl ls i = true) (e : j + 1 = i) (hj : gl ls j = some v) : v.category = 1 := by
  subst e
  have h : (match gl ls j with
    | some v => Nat.beq v.category 1
    | none => true) = true := h
  rw [hj] at h
  exact nbeq h
theorem LRel.store1 {G : Gx} {cls cls' : Array Slot} {nL : Nat} {ls : LV} {i : Nat} {v : Value} (h : LRel G cls nL ls) (hn : nl ls i = true)
    (h' : lv_has cls' nL ((i, phv G v) :: (lvA G ls nL).filter (fun q => !(q.1 == i) && !(q.1 + 1 == i && q.2.category == 2)))) : LRel G cls' nL (sl ls i (some v)) := by
  refine ⟨h'.1, h'.2.1, fun j w hw => ?_⟩
  rw [gl_sl] at hw
  by_cases e : j = i
  · rw [if_pos e] at hw
    cases hw
    exact h'.2.2 (j, phv G v) (by rw [e]; exact List.mem_cons_self)
  · rw [if_neg e] at hw
    refine h'.2.2 (j, phv G w) (List.mem_cons_of_mem _ (List.mem_filter.mpr ⟨lvA_in hw (h.lt hw), ?_⟩))
    simp only [Bool.and_eq_true, Bool.not_eq_true', beq_eq_false_iff_ne, ne_eq]
    refine ⟨e, ?_⟩
    by_cases e2 : j + 1 = i
    · rw [phv_cat, nl_cat hn e2 hw]
      simp
    · simp [e2]
theorem LRel.store2 {G : Gx} {cls cls' : Array Slot} {nL : Nat} {ls : LV} {i : Nat} {v : Value} (h : LRel G cls nL ls) (hn : nl ls i = true)
    (h' : lv_has cls' nL ((i, phv G v) :: (lvA G ls nL).filter (fun q => !(q.1 == i) && (!(q.1 == i + 1) && !(q.1 + 1 == i && q.2.category == 2))))) : LRel G cls' nL (sl (sl ls (i + 1) none) i (some v)) := by
  refine ⟨h'.1, h'.2.1, fun j w hw => ?_⟩
  rw [gl_sl] at hw
  by_cases e : j = i
  · rw [if_pos e] at hw
    cases hw
    exact h'.2.2 (j, phv G v) (by rw [e]; exact List.mem_cons_self)
  · rw [if_neg e, gl_sl] at hw
    by_cases e1 : j = i + 1
    · rw [if_pos e1] at hw
      cases hw
    · rw [if_neg e1] at hw
      refine h'.2.2 (j, phv G w) (List.mem_cons_of_mem _ (List.mem_filter.mpr ⟨lvA_in hw (h.lt hw), ?_⟩))
      simp only [Bool.and_eq_true, Bool.not_eq_true', beq_eq_false_iff_ne, ne_eq]
      refine ⟨e, e1, ?_⟩
      by_cases e2 : j + 1 = i
      · rw [phv_cat, nl_cat hn e2 hw]
        simp
      · simp [e2]
/-- the machine stands at the state h, pc, ls, st of a method that began with n0 cells -/
def Wst {S : Type} (rd : S → Nat → Nat → Option Nat) (G : Gx) (p : Program) (l : Launch) (e : Env) (R : Room) (s : State) (m : MethodId) (args : Array Value) (below : List Frame) (meth : Method) (c : Code) (n0 nL : Nat) (Q : State → Prop) (h : Hp S) (pc : Nat) (ls : LV) (st : List Value) : Prop :=
  n0 ≤ h.1 → ∀ (H : Heap) (locs : List Loc) (cls : Array Slot), RelH rd G h H → va_S (AA G) s.heap H locs → LRel G cls nL ls → W p l e R s m args below meth c H locs (h.1 - n0) (szs (gL G) h.1 - szs (gL G) n0) Q (F0 m pc cls (st.map (phv G)))
section WST
variable {S : Type} {rd : S → Nat → Nat → Option Nat} {G : Gx} {p : Program} {l : Launch} {e : Env} {R : Room} {s : State} {m : MethodId} {args : Array Value} {below : List Frame} {meth : Method} {c : Code} {n0 nL : Nat} {Q : State → Prop}
variable {cc : ByteArray} {h : Hp S} {pc : Nat} {ls : LV} {r : List Value}
theorem w_iconst (hx : p.tables.exec = Jvm.exec) (hb : c.code = cc) {n : Int} {v : Int32} (hd : decode cc pc = .ok (.iconst n, 1)) (hv : Int32.ofInt n = v) (k : Wst rd G p l e R s m args below meth c n0 nL Q h (pc + 1) ls (.int v :: r)) : Wst rd G p l e R s m args below meth c n0 nL Q h pc ls r :=
  fun hn H locs cls hR hS hL => lv_iconst hx hb hd hv (k hn H locs cls hR hS hL)
theorem w_bipush (hx : p.tables.exec = Jvm.exec) (hb : c.code = cc) {n : Int} {v : Int32} (hd : decode cc pc = .ok (.bipush n, 2)) (hv : (Int8.ofInt n).toInt32 = v) (k : Wst rd G p l e R s m args below meth c n0 nL Q h (pc + 2) ls (.int v :: r)) : Wst rd G p l e R s m args below meth c n0 nL Q h pc ls r :=
  fun hn H locs cls hR hS hL => lv_bipush hx hb hd hv (k hn H locs cls hR hS hL)
theorem w_sipush (hx : p.tables.exec = Jvm.exec) (hb : c.code = cc) {n : Int} {v : Int32} (hd : decode cc pc = .ok (.sipush n, 3)) (hv : (Int16.ofInt n).toInt32 = v) (k : Wst rd G p l e R s m args below meth c n0 nL Q h (pc + 3) ls (.int v :: r)) : Wst rd G p l e R s m args below meth c n0 nL Q h pc ls r :=
  fun hn H locs cls hR hS hL => lv_sipush hx hb hd hv (k hn H locs cls hR hS hL)
theorem w_lconst (hx : p.tables.exec = Jvm.exec) (hb : c.code = cc) {n : Fin 2} {v : Int64} (hd : decode cc pc = .ok (.lconst n, 1)) (hv : Int64.ofNat (n : Nat) = v) (k : Wst rd G p l e R s m args below meth c n0 nL Q h (pc + 1) ls (.long v :: r)) : Wst rd G p l e R s m args below meth c n0 nL Q h pc ls r :=
  fun hn H locs cls hR hS hL => lv_lconst hx hb hd hv (k hn H locs cls hR hS hL)
theorem w_null (hx : p.tables.exec = Jvm.exec) (hb : c.code = cc) (hd : decode cc pc = .ok (.aconst_null, 1)) (k : Wst rd G p l e R s m args below meth c n0 nL Q h (pc + 1) ls (.null :: r)) : Wst rd G p l e R s m args below meth c n0 nL Q h pc ls r :=
  fun hn H locs cls hR hS hL => lv_null hx hb hd (k hn H locs cls hR hS hL)
theorem w_iload (hx : p.tables.exec = Jvm.exec) (hb : c.code = cc) {i : Nat} {x : Int32} (hd : decode cc pc = .ok (.iload i, 2)) (hg : gl ls i = some (.int x)) (k : Wst rd G p l e R s m args below meth c n0 nL Q h (pc + 2) ls (.int x :: r)) : Wst rd G p l e R s m args below meth c n0 nL Q h pc ls r :=
  fun hn H locs cls hR hS hL => lv_iload hx hb hd (hL.2.2 i _ hg) (k hn H locs cls hR hS hL)
theorem w_iload_n (hx : p.tables.exec = Jvm.exec) (hb : c.code = cc) {j : Fin 4} {x : Int32} (hd : decode cc pc = .ok (.iload_n j, 1)) (hg : gl ls j.val = some (.int x)) (k : Wst rd G p l e R s m args below meth c n0 nL Q h (pc + 1) ls (.int x :: r)) : Wst rd G p l e R s m args below meth c n0 nL Q h pc ls r :=
  fun hn H locs cls hR hS hL => lv_iload_n hx hb hd rfl (hL.2.2 j.val _ hg) (k hn H locs cls hR hS hL)
theorem w_lload (hx : p.tables.exec = Jvm.exec) (hb : c.code = cc) {i : Nat} {x : Int64} (hd : decode cc pc = .ok (.lload i, 2)) (hg : gl ls i = some (.long x)) (k : Wst rd G p l e R s m args below meth c n0 nL Q h (pc + 2) ls (.long x :: r)) : Wst rd G p l e R s m args below meth c n0 nL Q h pc ls r :=
  fun hn H locs cls hR hS hL => lv_lload hx hb hd (hL.2.2 i _ hg) (k hn H locs cls hR hS hL)
theorem w_lload_n (hx : p.tables.exec = Jvm.exec) (hb : c.code = cc) {j : Fin 4} {x : Int64} (hd : decode cc pc = .ok (.lload_n j, 1)) (hg : gl ls j.val = some (.long x)) (k : Wst rd G p l e R s m args below meth c n0 nL Q h (pc + 1) ls (.long x :: r)) : Wst rd G p l e R s m args below meth c n0 nL Q h pc ls r :=
  fun hn H locs cls hR hS hL => lv_lload_n hx hb hd rfl (hL.2.2 j.val _ hg) (k hn H locs cls hR hS hL)
theorem w_aload (hx : p.tables.exec = Jvm.exec) (hb : c.code = cc) {i : Nat} {x : Nat} (hd : decode cc pc = .ok (.aload i, 2)) (hg : gl ls i = some (.ref x)) (k : Wst rd G p l e R s m args below meth c n0 nL Q h (pc + 2) ls (.ref x :: r)) : Wst rd G p l e R s m args below meth c n0 nL Q h pc ls r :=
  fun hn H locs cls hR hS hL => lv_aload hx hb hd (hL.2.2 i _ hg) (k hn H locs cls hR hS hL)
theorem w_aload_n (hx : p.tables.exec = Jvm.exec) (hb : c.code = cc) {j : Fin 4} {x : Nat} (hd : decode cc pc = .ok (.aload_n j, 1)) (hg : gl ls j.val = some (.ref x)) (k : Wst rd G p l e R s m args below meth c n0 nL Q h (pc + 1) ls (.ref x :: r)) : Wst rd G p l e R s m args below meth c n0 nL Q h pc ls r :=
  fun hn H locs cls hR hS hL => lv_aload_n hx hb hd rfl (hL.2.2 j.val _ hg) (k hn H locs cls hR hS hL)
theorem w_aloadN (hx : p.tables.exec = Jvm.exec) (hb : c.code = cc) {i : Nat} (hd : decode cc pc = .ok (.aload i, 2)) (hg : gl ls i = some .null) (k : Wst rd G p l e R s m args below meth c n0 nL Q h (pc + 2) ls (.null :: r)) : Wst rd G p l e R s m args below meth c n0 nL Q h pc ls r :=
  fun hn H locs cls hR hS hL => lv_aloadN hx hb hd (hL.2.2 i _ hg) (k hn H locs cls hR hS hL)
theorem w_aload_nN (hx : p.tables.exec = Jvm.exec) (hb : c.code = cc) {j : Fin 4} (hd : decode cc pc = .ok (.aload_n j, 1)) (hg : gl ls j.val = some .null) (k : Wst rd G p l e R s m args below meth c n0 nL Q h (pc + 1) ls (.null :: r)) : Wst rd G p l e R s m args below meth c n0 nL Q h pc ls r :=
  fun hn H locs cls hR hS hL => lv_aload_nN hx hb hd rfl (hL.2.2 j.val _ hg) (k hn H locs cls hR hS hL)
theorem w_istore (hx : p.tables.exec = Jvm.exec) (hb : c.code = cc) {i : Nat} {x : Int32} (hd : decode cc pc = .ok (.istore i, 2)) (hi : i < nL) (hm : nl ls i = true) (k : Wst rd G p l e R s m args below meth c n0 nL Q h (pc + 2) (sl ls i (some (.int x))) r) : Wst rd G p l e R s m args below meth c n0 nL Q h pc ls (.int x :: r) :=
  fun hn H locs cls hR hS hL => lv_istore hx hb hd (lvA_has hL) hi rfl (fun cls' hl => k hn H locs cls' hR hS (LRel.store1 hL hm hl))
theorem w_istore_n (hx : p.tables.exec = Jvm.exec) (hb : c.code = cc) {j : Fin 4} {x : Int32} (hd : decode cc pc = .ok (.istore_n j, 1)) (hi : j.val < nL) (hm : nl ls j.val = true) (k : Wst rd G p l e R s m args below meth c n0 nL Q h (pc + 1) (sl ls j.val (some (.int x))) r) : Wst rd G p l e R s m args below meth c n0 nL Q h pc ls (.int x :: r) :=
  fun hn H locs cls hR hS hL => lv_istore_n hx hb hd rfl (lvA_has hL) hi rfl (fun cls' hl => k hn H locs cls' hR hS (LRel.store1 hL hm hl))
theorem w_lstore (hx : p.tables.exec = Jvm.exec) (hb : c.code = cc) {i : Nat} {x : Int64} (hd : decode cc pc = .ok (.lstore i, 2)) (hi : i + 1 < nL) (hm : nl ls i = true) (k : Wst rd G p l e R s m args below meth c n0 nL Q h (pc + 2) (sl (sl ls (i + 1) none) i (some (.long x))) r) : Wst rd G p l e R s m args below meth c n0 nL Q h pc ls (.long x :: r) :=
  fun hn H locs cls hR hS hL => lv_lstore hx hb hd (lvA_has hL) hi rfl (fun cls' hl => k hn H locs cls' hR hS (LRel.store2 hL hm hl))
theorem w_lstore_n (hx : p.tables.exec = Jvm.exec) (hb : c.code = cc) {j : Fin 4} {x : Int64} (hd : decode cc pc = .ok (.lstore_n j, 1)) (hi : j.val + 1 < nL) (hm : nl ls j.val = true) (k : Wst rd G p l e R s m args below meth c n0 nL Q h (pc + 1) (sl (sl ls (j.val + 1) none) j.val (some (.long x))) r) : Wst rd G p l e R s m args below meth c n0 nL Q h pc ls (.long x :: r) :=
  fun hn H locs cls hR hS hL => lv_lstore_n hx hb hd rfl (lvA_has hL) hi rfl (fun cls' hl => k hn H locs cls' hR hS (LRel.store2 hL hm hl))
theorem w_astore (hx : p.tables.exec = Jvm.exec) (hb : c.code = cc) {i : Nat} {x : Nat} (hd : decode cc pc = .ok (.astore i, 2)) (hi : i < nL) (hm : nl ls i = true) (k : Wst rd G p l e R s m args below meth c n0 nL Q h (pc + 2) (sl ls i (some (.ref x))) r) : Wst rd G p l e R s m args below meth c n0 nL Q h pc ls (.ref x :: r) :=
  fun hn H locs cls hR hS hL => lv_astore hx hb hd (lvA_has hL) hi rfl (fun cls' hl => k hn H locs cls' hR hS (LRel.store1 hL hm hl))
theorem w_astore_n (hx : p.tables.exec = Jvm.exec) (hb : c.code = cc) {j : Fin 4} {x : Nat} (hd : decode cc pc = .ok (.astore_n j, 1)) (hi : j.val < nL) (hm : nl ls j.val = true) (k : Wst rd G p l e R s m args below meth c n0 nL Q h (pc + 1) (sl ls j.val (some (.ref x))) r) : Wst rd G p l e R s m args below meth c n0 nL Q h pc ls (.ref x :: r) :=
  fun hn H locs cls hR hS hL => lv_astore_n hx hb hd rfl (lvA_has hL) hi rfl (fun cls' hl => k hn H locs cls' hR hS (LRel.store1 hL hm hl))
theorem w_astoreN (hx : p.tables.exec = Jvm.exec) (hb : c.code = cc) {i : Nat} (hd : decode cc pc = .ok (.astore i, 2)) (hi : i < nL) (hm : nl ls i = true) (k : Wst rd G p l e R s m args below meth c n0 nL Q h (pc + 2) (sl ls i (some .null)) r) : Wst rd G p l e R s m args below meth c n0 nL Q h pc ls (.null :: r) :=
  fun hn H locs cls hR hS hL => lv_astoreN hx hb hd (lvA_has hL) hi rfl (fun cls' hl => k hn H locs cls' hR hS (LRel.store1 (v := .null) hL hm hl))
theorem w_astore_nN (hx : p.tables.exec = Jvm.exec) (hb : c.code = cc) {j : Fin 4} (hd : decode cc pc = .ok (.astore_n j, 1)) (hi : j.val < nL) (hm : nl ls j.val = true) (k : Wst rd G p l e R s m args below meth c n0 nL Q h (pc + 1) (sl ls j.val (some .null)) r) : Wst rd G p l e R s m args below meth c n0 nL Q h pc ls (.null :: r) :=
  fun hn H locs cls hR hS hL => lv_astore_nN hx hb hd rfl (lvA_has hL) hi rfl (fun cls' hl => k hn H locs cls' hR hS (LRel.store1 (v := .null) hL hm hl))
theorem w_iinc (hx : p.tables.exec = Jvm.exec) (hb : c.code = cc) {i : Nat} {n : Int} {x v : Int32} (hd : decode cc pc = .ok (.iinc i n, 3)) (hi : i < nL) (hm : nl ls i = true) (hg : gl ls i = some (.int x)) (hv : x + Int32.ofInt n = v) (k : Wst rd G p l e R s m args below meth c n0 nL Q h (pc + 3) (sl ls i (some (.int v))) r) : Wst rd G p l e R s m args below meth c n0 nL Q h pc ls r := by
  intro hn H locs cls hR hS hL
  obtain ⟨j, hj⟩ := List.getElem?_of_mem (lvA_in (G := G) hg hi)
  exact lv_iinc hx hb hd (lvA_has hL) hj hv hi rfl (fun cls' hl => k hn H locs cls' hR hS (LRel.store1 (v := .int v) hL hm hl))
theorem w_iadd (hx : p.tables.exec = Jvm.exec) (hb : c.code = cc) {x y : Int32} (hd : decode cc pc = .ok (.iadd, 1)) (k : Wst rd G p l e R s m args below meth c n0 nL Q h (pc + 1) ls (.int (x + y) :: r)) : Wst rd G p l e R s m args below meth c n0 nL Q h pc ls (.int y :: .int x :: r) :=
  fun hn H locs cls hR hS hL => lv_iadd hx hb hd (k hn H locs cls hR hS hL)
theorem w_isub (hx : p.tables.exec = Jvm.exec) (hb : c.code = cc) {x y : Int32} (hd : decode cc pc = .ok (.isub, 1)) (k : Wst rd G p l e R s m args below meth c n0 nL Q h (pc + 1) ls (.int (x - y) :: r)) : Wst rd G p l e R s m args below meth c n0 nL Q h pc ls (.int y :: .int x :: r) :=
  fun hn H locs cls hR hS hL => lv_isub hx hb hd (k hn H locs cls hR hS hL)
theorem w_imul (hx : p.tables.exec = Jvm.exec) (hb : c.code = cc) {x y : Int32} (hd : decode cc pc = .ok (.imul, 1)) (k : Wst rd G p l e R s m args below meth c n0 nL Q h (pc + 1) ls (.int (x * y) :: r)) : Wst rd G p l e R s m args below meth c n0 nL Q h pc ls (.int y :: .int x :: r) :=
  fun hn H locs cls hR hS hL => lv_imul hx hb hd (k hn H locs cls hR hS hL)
theorem w_iand (hx : p.tables.exec = Jvm.exec) (hb : c.code = cc) {x y : Int32} (hd : decode cc pc = .ok (.iand, 1)) (k : Wst rd G p l e R s m args below meth c n0 nL Q h (pc + 1) ls (.int (x &&& y) :: r)) : Wst rd G p l e R s m args below meth c n0 nL Q h pc ls (.int y :: .int x :: r) :=
  fun hn H locs cls hR hS hL => lv_iand hx hb hd (k hn H locs cls hR hS hL)
theorem w_ior (hx : p.tables.exec = Jvm.exec) (hb : c.code = cc) {x y : Int32} (hd : decode cc pc = .ok (.ior, 1)) (k : Wst rd G p l e R s m args below meth c n0 nL Q h (pc + 1) ls (.int (x ||| y) :: r)) : Wst rd G p l e R s m args below meth c n0 nL Q h pc ls (.int y :: .int x :: r) :=
  fun hn H locs cls hR hS hL => lv_ior hx hb hd (k hn H locs cls hR hS hL)
theorem w_ixor (hx : p.tables.exec = Jvm.exec) (hb : c.code = cc) {x y : Int32} (hd : decode cc pc = .ok (.ixor, 1)) (k : Wst rd G p l e R s m args below meth c n0 nL Q h (pc + 1) ls (.int (x ^^^ y) :: r)) : Wst rd G p l e R s m args below meth c n0 nL Q h pc ls (.int y :: .int x :: r) :=
  fun hn H locs cls hR hS hL => lv_ixor hx hb hd (k hn H locs cls hR hS hL)
theorem w_ishl (hx : p.tables.exec = Jvm.exec) (hb : c.code = cc) {x y : Int32} (hd : decode cc pc = .ok (.ishl, 1)) (k : Wst rd G p l e R s m args below meth c n0 nL Q h (pc + 1) ls (.int (x <<< (y &&& 31)) :: r)) : Wst rd G p l e R s m args below meth c n0 nL Q h pc ls (.int y :: .int x :: r) :=
  fun hn H locs cls hR hS hL => lv_ishl hx hb hd (k hn H locs cls hR hS hL)
theorem w_ishr (hx : p.tables.exec = Jvm.exec) (hb : c.code = cc) {x y : Int32} (hd : decode cc pc = .ok (.ishr, 1)) (k : Wst rd G p l e R s m args below meth c n0 nL Q h (pc + 1) ls (.int (x >>> (y &&& 31)) :: r)) : Wst rd G p l e R s m args below meth c n0 nL Q h pc ls (.int y :: .int x :: r) :=
  fun hn H locs cls hR hS hL => lv_ishr hx hb hd (k hn H locs cls hR hS hL)
theorem w_idiv (hx : p.tables.exec = Jvm.exec) (hb : c.code = cc) {x y : Int32} (hd : decode cc pc = .ok (.idiv, 1)) (hne : ¬ y = 0) (k : Wst rd G p l e R s m args below meth c n0 nL Q h (pc + 1) ls (.int (x / y) :: r)) : Wst rd G p l e R s m args below meth c n0 nL Q h pc ls (.int y :: .int x :: r) :=
  fun hn H locs cls hR hS hL => lv_idiv hx hb hd hne (k hn H locs cls hR hS hL)
theorem w_irem (hx : p.tables.exec = Jvm.exec) (hb : c.code = cc) {x y : Int32} (hd : decode cc pc = .ok (.irem, 1)) (hne : ¬ y = 0) (k : Wst rd G p l e R s m args below meth c n0 nL Q h (pc + 1) ls (.int (x - x / y * y) :: r)) : Wst rd G p l e R s m args below meth c n0 nL Q h pc ls (.int y :: .int x :: r) :=
  fun hn H locs cls hR hS hL => lv_irem hx hb hd hne (k hn H locs cls hR hS hL)
theorem w_ineg (hx : p.tables.exec = Jvm.exec) (hb : c.code = cc) {x : Int32} (hd : decode cc pc = .ok (.ineg, 1)) (k : Wst rd G p l e R s m args below meth c n0 nL Q h (pc + 1) ls (.int (-x) :: r)) : Wst rd G p l e R s m args below meth c n0 nL Q h pc ls (.int x :: r) :=
  fun hn H locs cls hR hS hL => lv_ineg hx hb hd (k hn H locs cls hR hS hL)
theorem w_iushr (hx : p.tables.exec = Jvm.exec) (hb : c.code = cc) {x y : Int32} (hd : decode cc pc = .ok (.iushr, 1)) (k : Wst rd G p l e R s m args below meth c n0 nL Q h (pc + 1) ls (.int (x.toUInt32 >>> (y.toUInt32 &&& Int32.toUInt32 31)).toInt32 :: r)) : Wst rd G p l e R s m args below meth c n0 nL Q h pc ls (.int y :: .int x :: r) :=
  fun hn H locs cls hR hS hL => lv_iushr hx hb hd rfl (k hn H locs cls hR hS hL)
theorem w_i2l (hx : p.tables.exec = Jvm.exec) (hb : c.code = cc) {x : Int32} (hd : decode cc pc = .ok (.i2l, 1)) (k : Wst rd G p l e R s m args below meth c n0 nL Q h (pc + 1) ls (.long x.toInt64 :: r)) : Wst rd G p l e R s m args below meth c n0 nL Q h pc ls (.int x :: r) :=
  fun hn H locs cls hR hS hL => lv_i2l hx hb hd rfl (k hn H locs cls hR hS hL)
theorem w_i2b (hx : p.tables.exec = Jvm.exec) (hb : c.code = cc) {x : Int32} (hd : decode cc pc = .ok (.i2b, 1)) (k : Wst rd G p l e R s m args below meth c n0 nL Q h (pc + 1) ls (.int x.toInt8.toInt32 :: r)) : Wst rd G p l e R s m args below meth c n0 nL Q h pc ls (.int x :: r) :=
  fun hn H locs cls hR hS hL => lv_i2b hx hb hd rfl (k hn H locs cls hR hS hL)
theorem w_i2s (hx : p.tables.exec = Jvm.exec) (hb : c.code = cc) {x : Int32} (hd : decode cc pc = .ok (.i2s, 1)) (k : Wst rd G p l e R s m args below meth c n0 nL Q h (pc + 1) ls (.int x.toInt16.toInt32 :: r)) : Wst rd G p l e R s m args below meth c n0 nL Q h pc ls (.int x :: r) :=
  fun hn H locs cls hR hS hL => lv_i2s hx hb hd rfl (k hn H locs cls hR hS hL)
theorem w_lmul (hx : p.tables.exec = Jvm.exec) (hb : c.code = cc) {x y : Int64} (hd : decode cc pc = .ok (.lmul, 1)) (k : Wst rd G p l e R s m args below meth c n0 nL Q h (pc + 1) ls (.long (x * y) :: r)) : Wst rd G p l e R s m args below meth c n0 nL Q h pc ls (.long y :: .long x :: r) :=
  fun hn H locs cls hR hS hL => lv_lmul hx hb hd (k hn H locs cls hR hS hL)
theorem w_lsub (hx : p.tables.exec = Jvm.exec) (hb : c.code = cc) {x y : Int64} (hd : decode cc pc = .ok (.lsub, 1)) (k : Wst rd G p l e R s m args below meth c n0 nL Q h (pc + 1) ls (.long (x - y) :: r)) : Wst rd G p l e R s m args below meth c n0 nL Q h pc ls (.long y :: .long x :: r) :=
  fun hn H locs cls hR hS hL => lv_lsub hx hb hd (k hn H locs cls hR hS hL)
theorem w_ldiv (hx : p.tables.exec = Jvm.exec) (hb : c.code = cc) {x y : Int64} (hd : decode cc pc = .ok (.ldiv, 1)) (hne : ¬ y = 0) (k : Wst rd G p l e R s m args below meth c n0 nL Q h (pc + 1) ls (.long (x / y) :: r)) : Wst rd G p l e R s m args below meth c n0 nL Q h pc ls (.long y :: .long x :: r) :=
  fun hn H locs cls hR hS hL => lv_ldiv hx hb hd hne (k hn H locs cls hR hS hL)
theorem w_lrem (hx : p.tables.exec = Jvm.exec) (hb : c.code = cc) {x y : Int64} (hd : decode cc pc = .ok (.lrem, 1)) (hne : ¬ y = 0) (k : Wst rd G p l e R s m args below meth c n0 nL Q h (pc + 1) ls (.long (x - x / y * y) :: r)) : Wst rd G p l e R s m args below meth c n0 nL Q h pc ls (.long y :: .long x :: r) :=
  fun hn H locs cls hR hS hL => lv_lrem hx hb hd hne (k hn H locs cls hR hS hL)
theorem w_lcmp (hx : p.tables.exec = Jvm.exec) (hb : c.code = cc) {x y : Int64} (hd : decode cc pc = .ok (.lcmp, 1)) (k : Wst rd G p l e R s m args below meth c n0 nL Q h (pc + 1) ls (.int (lg_cmp x y) :: r)) : Wst rd G p l e R s m args below meth c n0 nL Q h pc ls (.long y :: .long x :: r) :=
  fun hn H locs cls hR hS hL => W.lcmp hx hb hd (k hn H locs cls hR hS hL)
theorem w_dupI (hx : p.tables.exec = Jvm.exec) (hb : c.code = cc) {x : Int32} (hd : decode cc pc = .ok (.dup, 1)) (k : Wst rd G p l e R s m args below meth c n0 nL Q h (pc + 1) ls (.int x :: .int x :: r)) : Wst rd G p l e R s m args below meth c n0 nL Q h pc ls (.int x :: r) :=
  fun hn H locs cls hR hS hL => lv_dup hx hb hd rfl (k hn H locs cls hR hS hL)
theorem w_dupR (hx : p.tables.exec = Jvm.exec) (hb : c.code = cc) {x : Nat} (hd : decode cc pc = .ok (.dup, 1)) (k : Wst rd G p l e R s m args below meth c n0 nL Q h (pc + 1) ls (.ref x :: .ref x :: r)) : Wst rd G p l e R s m args below meth c n0 nL Q h pc ls (.ref x :: r) :=
  fun hn H locs cls hR hS hL => lv_dup hx hb hd rfl (k hn H locs cls hR hS hL)
theorem w_dup2 (hx : p.tables.exec = Jvm.exec) (hb : c.code = cc) {x : Int32} {y : Nat} (hd : decode cc pc = .ok (.dup2, 1)) (k : Wst rd G p l e R s m args below meth c n0 nL Q h (pc + 1) ls (.int x :: .ref y :: .int x :: .ref y :: r)) : Wst rd G p l e R s m args below meth c n0 nL Q h pc ls (.int x :: .ref y :: r) :=
  fun hn H locs cls hR hS hL => lv_dup2_11 hx hb hd rfl rfl (k hn H locs cls hR hS hL)
theorem w_if_eq (hx : p.tables.exec = Jvm.exec) (hb : c.code = cc) {x : Int32} {off : Int} {tgt : Nat} (hd : decode cc pc = .ok (.ifCond .eq off, 3)) (ht : (pc : Int) + off = (tgt : Int)) (kt : x = 0 → Wst rd G p l e R s m args below meth c n0 nL Q h tgt ls r) (kf : ¬ (x = 0) → Wst rd G p l e R s m args below meth c n0 nL Q h (pc + 3) ls r) : Wst rd G p l e R s m args below meth c n0 nL Q h pc ls (.int x :: r) :=
  fun hn H locs cls hR hS hL => lv_if_eq hx hb hd ht (fun q => kt q hn H locs cls hR hS hL) (fun q => kf q hn H locs cls hR hS hL)
theorem w_if_ne (hx : p.tables.exec = Jvm.exec) (hb : c.code = cc) {x : Int32} {off : Int} {tgt : Nat} (hd : decode cc pc = .ok (.ifCond .ne off, 3)) (ht : (pc : Int) + off = (tgt : Int)) (kt : ¬ x = 0 → Wst rd G p l e R s m args below meth c n0 nL Q h tgt ls r) (kf : ¬ (¬ x = 0) → Wst rd G p l e R s m args below meth c n0 nL Q h (pc + 3) ls r) : Wst rd G p l e R s m args below meth c n0 nL Q h pc ls (.int x :: r) :=
  fun hn H locs cls hR hS hL => lv_if_ne hx hb hd ht (fun q => kt q hn H locs cls hR hS hL) (fun q => kf (fun z => z q) hn H locs cls hR hS hL)
theorem w_if_lt (hx : p.tables.exec = Jvm.exec) (hb : c.code = cc) {x : Int32} {off : Int} {tgt : Nat} (hd : decode cc pc = .ok (.ifCond .lt off, 3)) (ht : (pc : Int) + off = (tgt : Int)) (kt : x < 0 → Wst rd G p l e R s m args below meth c n0 nL Q h tgt ls r) (kf : ¬ (x < 0) → Wst rd G p l e R s m args below meth c n0 nL Q h (pc + 3) ls r) : Wst rd G p l e R s m args below meth c n0 nL Q h pc ls (.int x :: r) :=
  fun hn H locs cls hR hS hL => lv_if_lt hx hb hd ht (fun q => kt q hn H locs cls hR hS hL) (fun q => kf q hn H locs cls hR hS hL)
theorem w_if_ge (hx : p.tables.exec = Jvm.exec) (hb : c.code = cc) {x : Int32} {off : Int} {tgt : Nat} (hd : decode cc pc = .ok (.ifCond .ge off, 3)) (ht : (pc : Int) + off = (tgt : Int)) (kt : 0 ≤ x → Wst rd G p l e R s m args below meth c n0 nL Q h tgt ls r) (kf : ¬ (0 ≤ x) → Wst rd G p l e R s m args below meth c n0 nL Q h (pc + 3) ls r) : Wst rd G p l e R s m args below meth c n0 nL Q h pc ls (.int x :: r) :=
  fun hn H locs cls hR hS hL => lv_if_ge hx hb hd ht (fun q => kt q hn H locs cls hR hS hL) (fun q => kf q hn H locs cls hR hS hL)
theorem w_if_gt (hx : p.tables.exec = Jvm.exec) (hb : c.code = cc) {x : Int32} {off : Int} {tgt : Nat} (hd : decode cc pc = .ok (.ifCond .gt off, 3)) (ht : (pc : Int) + off = (tgt : Int)) (kt : 0 < x → Wst rd G p l e R s m args below meth c n0 nL Q h tgt ls r) (kf : ¬ (0 < x) → Wst rd G p l e R s m args below meth c n0 nL Q h (pc + 3) ls r) : Wst rd G p l e R s m args below meth c n0 nL Q h pc ls (.int x :: r) :=
  fun hn H locs cls hR hS hL => lv_if_gt hx hb hd ht (fun q => kt q hn H locs cls hR hS hL) (fun q => kf q hn H locs cls hR hS hL)
theorem w_if_le (hx : p.tables.exec = Jvm.exec) (hb : c.code = cc) {x : Int32} {off : Int} {tgt : Nat} (hd : decode cc pc = .ok (.ifCond .le off, 3)) (ht : (pc : Int) + off = (tgt : Int)) (kt : x ≤ 0 → Wst rd G p l e R s m args below meth c n0 nL Q h tgt ls r) (kf : ¬ (x ≤ 0) → Wst rd G p l e R s m args below meth c n0 nL Q h (pc + 3) ls r) : Wst rd G p l e R s m args below meth c n0 nL Q h pc ls (.int x :: r) :=
  fun hn H locs cls hR hS hL => lv_if_le hx hb hd ht (fun q => kt q hn H locs cls hR hS hL) (fun q => kf q hn H locs cls hR hS hL)
theorem w_icmp_eq (hx : p.tables.exec = Jvm.exec) (hb : c.code = cc) {x y : Int32} {off : Int} {tgt : Nat} (hd : decode cc pc = .ok (.if_icmp .eq off, 3)) (ht : (pc : Int) + off = (tgt : Int)) (kt : x = y → Wst rd G p l e R s m args below meth c n0 nL Q h tgt ls r) (kf : ¬ (x = y) → Wst rd G p l e R s m args below meth c n0 nL Q h (pc + 3) ls r) : Wst rd G p l e R s m args below meth c n0 nL Q h pc ls (.int y :: .int x :: r) :=
  fun hn H locs cls hR hS hL => lv_icmp_eq hx hb hd ht (fun q => kt q hn H locs cls hR hS hL) (fun q => kf q hn H locs cls hR hS hL)
theorem w_icmp_ne (hx : p.tables.exec = Jvm.exec) (hb : c.code = cc) {x y : Int32} {off : Int} {tgt : Nat} (hd : decode cc pc = .ok (.if_icmp .ne off, 3)) (ht : (pc : Int) + off = (tgt : Int)) (kt : ¬ x = y → Wst rd G p l e R s m args below meth c n0 nL Q h tgt ls r) (kf : ¬ (¬ x = y) → Wst rd G p l e R s m args below meth c n0 nL Q h (pc + 3) ls r) : Wst rd G p l e R s m args below meth c n0 nL Q h pc ls (.int y :: .int x :: r) :=
  fun hn H locs cls hR hS hL => lv_icmp_ne hx hb hd ht (fun q => kt q hn H locs cls hR hS hL) (fun q => kf (fun z => z q) hn H locs cls hR hS hL)
theorem w_icmp_lt (hx : p.tables.exec = Jvm.exec) (hb : c.code = cc) {x y : Int32} {off : Int} {tgt : Nat} (hd : decode cc pc = .ok (.if_icmp .lt off, 3)) (ht : (pc : Int) + off = (tgt : Int)) (kt : x < y → Wst rd G p l e R s m args below meth c n0 nL Q h tgt ls r) (kf : ¬ (x < y) → Wst rd G p l e R s m args below meth c n0 nL Q h (pc + 3) ls r) : Wst rd G p l e R s m args below meth c n0 nL Q h pc ls (.int y :: .int x :: r) :=
  fun hn H locs cls hR hS hL => lv_icmp_lt hx hb hd ht (fun q => kt q hn H locs cls hR hS hL) (fun q => kf q hn H locs cls hR hS hL)
theorem w_icmp_ge (hx : p.tables.exec = Jvm.exec) (hb : c.code = cc) {x y : Int32} {off : Int} {tgt : Nat} (hd : decode cc pc = .ok (.if_icmp .ge off, 3)) (ht : (pc : Int) + off = (tgt : Int)) (kt : y ≤ x → Wst rd G p l e R s m args below meth c n0 nL Q h tgt ls r) (kf : ¬ (y ≤ x) → Wst rd G p l e R s m args below meth c n0 nL Q h (pc + 3) ls r) : Wst rd G p l e R s m args below meth c n0 nL Q h pc ls (.int y :: .int x :: r) :=
  fun hn H locs cls hR hS hL => lv_icmp_ge hx hb hd ht (fun q => kt q hn H locs cls hR hS hL) (fun q => kf q hn H locs cls hR hS hL)
theorem w_icmp_gt (hx : p.tables.exec = Jvm.exec) (hb : c.code = cc) {x y : Int32} {off : Int} {tgt : Nat} (hd : decode cc pc = .ok (.if_icmp .gt off, 3)) (ht : (pc : Int) + off = (tgt : Int)) (kt : y < x → Wst rd G p l e R s m args below meth c n0 nL Q h tgt ls r) (kf : ¬ (y < x) → Wst rd G p l e R s m args below meth c n0 nL Q h (pc + 3) ls r) : Wst rd G p l e R s m args below meth c n0 nL Q h pc ls (.int y :: .int x :: r) :=
  fun hn H locs cls hR hS hL => lv_icmp_gt hx hb hd ht (fun q => kt q hn H locs cls hR hS hL) (fun q => kf q hn H locs cls hR hS hL)
theorem w_icmp_le (hx : p.tables.exec = Jvm.exec) (hb : c.code = cc) {x y : Int32} {off : Int} {tgt : Nat} (hd : decode cc pc = .ok (.if_icmp .le off, 3)) (ht : (pc : Int) + off = (tgt : Int)) (kt : x ≤ y → Wst rd G p l e R s m args below meth c n0 nL Q h tgt ls r) (kf : ¬ (x ≤ y) → Wst rd G p l e R s m args below meth c n0 nL Q h (pc + 3) ls r) : Wst rd G p l e R s m args below meth c n0 nL Q h pc ls (.int y :: .int x :: r) :=
  fun hn H locs cls hR hS hL => lv_icmp_le hx hb hd ht (fun q => kt q hn H locs cls hR hS hL) (fun q => kf q hn H locs cls hR hS hL)
theorem w_goto (hx : p.tables.exec = Jvm.exec) (hb : c.code = cc) {off : Int} {tgt : Nat} (hd : decode cc pc = .ok (.goto off, 3)) (ht : (pc : Int) + off = (tgt : Int)) (k : Wst rd G p l e R s m args below meth c n0 nL Q h tgt ls r) : Wst rd G p l e R s m args below meth c n0 nL Q h pc ls r :=
  fun hn H locs cls hR hS hL => lv_goto hx hb hd ht (k hn H locs cls hR hS hL)
theorem w_ifnull (hx : p.tables.exec = Jvm.exec) (hb : c.code = cc) {x : Nat} {off : Int} (hd : decode cc pc = .ok (.ifnull off, 3)) (k : Wst rd G p l e R s m args below meth c n0 nL Q h (pc + 3) ls r) : Wst rd G p l e R s m args below meth c n0 nL Q h pc ls (.ref x :: r) :=
  fun hn H locs cls hR hS hL => lv_ifnull hx hb hd (k hn H locs cls hR hS hL)
theorem w_ifnullN (hx : p.tables.exec = Jvm.exec) (hb : c.code = cc) {off : Int} {tgt : Nat} (hd : decode cc pc = .ok (.ifnull off, 3)) (ht : (pc : Int) + off = (tgt : Int)) (k : Wst rd G p l e R s m args below meth c n0 nL Q h tgt ls r) : Wst rd G p l e R s m args below meth c n0 nL Q h pc ls (.null :: r) :=
  fun hn H locs cls hR hS hL => lv_ifnullN hx hb hd ht (k hn H locs cls hR hS hL)
theorem w_ifnonnull (hx : p.tables.exec = Jvm.exec) (hb : c.code = cc) {x : Nat} {off : Int} {tgt : Nat} (hd : decode cc pc = .ok (.ifnonnull off, 3)) (ht : (pc : Int) + off = (tgt : Int)) (k : Wst rd G p l e R s m args below meth c n0 nL Q h tgt ls r) : Wst rd G p l e R s m args below meth c n0 nL Q h pc ls (.ref x :: r) :=
  fun hn H locs cls hR hS hL => lv_ifnonnull hx hb hd ht (k hn H locs cls hR hS hL)
theorem w_ifnonnullN (hx : p.tables.exec = Jvm.exec) (hb : c.code = cc) {off : Int} (hd : decode cc pc = .ok (.ifnonnull off, 3)) (k : Wst rd G p l e R s m args below meth c n0 nL Q h (pc + 3) ls r) : Wst rd G p l e R s m args below meth c n0 nL Q h pc ls (.null :: r) :=
  fun hn H locs cls hR hS hL => lv_ifnonnullN hx hb hd (k hn H locs cls hR hS hL)
theorem w_lookup (hx : p.tables.exec = Jvm.exec) (hb : c.code = cc) {dflt : Int} {ps : Array (Int × Int)} {len : Nat} {x : Int32} {off : Int} {tgt : Nat} (hd : decode cc pc = .ok (.lookupswitch dflt ps, len)) (hp : (ps.toList.zip (ps.toList.drop 1)).all (fun (a, next) => a.1 < next.1) = true) (ho : Op.lookupswitch.offset ps.toList dflt x.toInt = off) (ht : (pc : Int) + off = (tgt : Int)) (k : Wst rd G p l e R s m args below meth c n0 nL Q h tgt ls r) : Wst rd G p l e R s m args below meth c n0 nL Q h pc ls (.int x :: r) :=
  fun hn H locs cls hR hS hL => lv_lookup hx hb hd hp ho ht (k hn H locs cls hR hS hL)
theorem w_tableOut (hx : p.tables.exec = Jvm.exec) (hb : c.code = cc) {dflt lo hi : Int} {offs : Array Int} {len : Nat} {x : Int32} {tgt : Nat} (hd : decode cc pc = .ok (.tableswitch dflt lo hi offs, len)) (hq : x.toInt < lo ∨ hi < x.toInt) (ht : (pc : Int) + dflt = (tgt : Int)) (k : Wst rd G p l e R s m args below meth c n0 nL Q h tgt ls r) : Wst rd G p l e R s m args below meth c n0 nL Q h pc ls (.int x :: r) :=
  fun hn H locs cls hR hS hL => lv_tableOut hx hb hd hq ht (k hn H locs cls hR hS hL)
theorem w_tableIn (hx : p.tables.exec = Jvm.exec) (hb : c.code = cc) {dflt lo hi : Int} {offs : Array Int} {len : Nat} {x : Int32} {off : Int} {tgt : Nat} (hd : decode cc pc = .ok (.tableswitch dflt lo hi offs, len)) (h1 : ¬ x.toInt < lo) (h2 : ¬ hi < x.toInt) (ho : offs[(x.toInt - lo).toNat]? = some off) (ht : (pc : Int) + off = (tgt : Int)) (k : Wst rd G p l e R s m args below meth c n0 nL Q h tgt ls r) : Wst rd G p l e R s m args below meth c n0 nL Q h pc ls (.int x :: r) :=
  fun hn H locs cls hR hS hL => lv_tableIn hx hb hd h1 h2 ho ht (k hn H locs cls hR hS hL)
theorem w_ldcw (hx : p.tables.exec = Jvm.exec) (hb : c.code = cc) {own : String} {index : Nat} {v : Int32} (hown : s.vm.findClass own = some m.cls) (hconst : (Jvm.Cond.constant own index v).before args s = true) (hd : decode cc pc = .ok (.ldc_w index, 3)) (k : Wst rd G p l e R s m args below meth c n0 nL Q h (pc + 3) ls (.int v :: r)) : Wst rd G p l e R s m args below meth c n0 nL Q h pc ls r :=
  fun hn H locs cls hR hS hL => lv_ldcw hx hb hown hconst hd (k hn H locs cls hR hS hL)
theorem w_ldc2 (hx : p.tables.exec = Jvm.exec) (hb : c.code = cc) {own : String} {index : Nat} {v : Int64} (hown : s.vm.findClass own = some m.cls) (hconst : (Jvm.Cond.constantLong own index v).before args s = true) (hd : decode cc pc = .ok (.ldc2_w index, 3)) (k : Wst rd G p l e R s m args below meth c n0 nL Q h (pc + 3) ls (.long v :: r)) : Wst rd G p l e R s m args below meth c n0 nL Q h pc ls r :=
  fun hn H locs cls hR hS hL => lv_ldc2 hx hb hown hconst hd (k hn H locs cls hR hS hL)
end WST
