/-! new int[n][m], out of the machine's own words -/
def outC (cA : ClassId) (N h0 j : Nat) : Cell := arrV cA N (fun i => if i < j then .ref (h0 + 1 + i) else .null)
def innC (cy : ClassId) (K : Nat) : Cell := { cls := cy, slots := Array.replicate K (.int 0), vm := .none }
def mnaS (s : State) (cA cy : ClassId) (N K : Nat) : Nat → State
  | 0 => s.pushCell { cls := cA, slots := Array.replicate N .null, vm := .none }
  | j + 1 => ((mnaS s cA cy N K j).pushCell (innC cy K)).setCell s.heap.size ((outC cA N s.heap.size j).setSlot j (.ref (s.heap.size + 1 + j)))
theorem outC_0 (cA : ClassId) (N h0 : Nat) : ({ cls := cA, slots := Array.replicate N .null, vm := .none } : Cell) = outC cA N h0 0 := by
  rw [arrV_new]
  unfold outC
  congr 1
theorem outC_s (cA : ClassId) (N h0 j : Nat) : (outC cA N h0 j).setSlot j (.ref (h0 + 1 + j)) = outC cA N h0 (j + 1) := by
  unfold outC
  rw [arrV_store]
  congr 1
  funext i
  unfold updV
  by_cases e : i = j
  · rw [if_pos e, if_pos (by omega), e]
  · by_cases h : i < j
    · rw [if_neg e]
      show (if i < j then Value.ref (h0 + 1 + i) else Value.null) = _
      rw [if_pos h, if_pos (by omega)]
    · rw [if_neg e]
      show (if i < j then Value.ref (h0 + 1 + i) else Value.null) = _
      rw [if_neg h, if_neg (by omega)]
theorem mnaS_facts (s : State) (cA cy : ClassId) (N K : Nat) : ∀ j : Nat, (mnaS s cA cy N K j).heap.size = s.heap.size + 1 + j ∧ (mnaS s cA cy N K j).heap[s.heap.size]? = some (outC cA N s.heap.size j) ∧ (∀ q, q < s.heap.size → (mnaS s cA cy N K j).heap[q]? = s.heap[q]?) ∧
    (∀ i, i < j → (mnaS s cA cy N K j).heap[s.heap.size + 1 + i]? = some (innC cy K)) ∧ (mnaS s cA cy N K j).vm = s.vm ∧ (mnaS s cA cy N K j).slotsUsed = s.slotsUsed + N + j * K ∧ (mnaS s cA cy N K j).topJava? = s.topJava?
  | 0 => by
    refine ⟨?_, ?_, fun q hq => ?_, fun i hi => absurd hi (by omega), rfl, ?_, rfl⟩
    · show (s.heap.push _).size = _
      simp
    · show (s.heap.push _)[s.heap.size]? = _
      rw [Array.getElem?_push, if_pos rfl, outC_0 cA N s.heap.size]
    · show (s.heap.push _)[q]? = _
      rw [Array.getElem?_push, if_neg (Nat.ne_of_lt hq)]
    · show s.slotsUsed + (Array.replicate N Value.null).size = _
      simp
  | j + 1 => by
    obtain ⟨h1, h2, h3, h4, h5, h6, h7⟩ := mnaS_facts s cA cy N K j
    have hh : (mnaS s cA cy N K (j + 1)).heap = ((mnaS s cA cy N K j).heap.push (innC cy K)).setIfInBounds s.heap.size ((outC cA N s.heap.size j).setSlot j (.ref (s.heap.size + 1 + j))) := rfl
    have hsz : s.heap.size < ((mnaS s cA cy N K j).heap.push (innC cy K)).size := by simp; omega
    refine ⟨?_, ?_, fun q hq => ?_, fun i hi => ?_, h5, ?_, h7⟩
    · rw [hh]; simp; omega
    · rw [hh, Array.getElem?_setIfInBounds, if_pos rfl, if_pos hsz, outC_s]
    · rw [hh, Array.getElem?_setIfInBounds, if_neg (Nat.ne_of_gt hq), Array.getElem?_push, if_neg (by omega)]
      exact h3 q hq
    · rw [hh, Array.getElem?_setIfInBounds, if_neg (by omega), Array.getElem?_push]
      by_cases e : i = j
      · rw [if_pos (by omega)]
      · rw [if_neg (by omega)]
        exact h4 i (by omega)
    · show (mnaS s cA cy N K j).slotsUsed + (innC cy K).slots.size = _
      rw [h6]
      show _ + (Array.replicate K (Value.int 0)).size = _
      simp
      rw [Nat.succ_mul]
      omega
section MNA
variable {E : CtlPost} {e : Env} {d : Bool} {acts : List Action}
set_option maxHeartbeats 4000000 in
theorem mna_wp {s : State} {f : JFrame} {index : Nat} {cA cy ci : ClassId} {kA ky : Class} {n k : Int32} {rest : List Value} (hs : s.topJava?.isSome) (hr : s.vm.classReady f.method.cls index cA) (hkA : s.vm.classes[cA]? = some kA) (hkindA : kA.kind = .array cy (.array .int)) (hky : s.vm.classes[cy]? = some ky) (hkindy : ky.kind = .array ci .int)
    (hstack : f.stack = .int k :: .int n :: rest) (hn : ¬ n < 0) (hk : ¬ k < 0) (hlN : ¬ n.toNatClampNeg > e.platform.arrayLengthLimit) (hlK : ¬ k.toNatClampNeg > e.platform.arrayLengthLimit) (hhN : ¬ n.toNatClampNeg * componentBytes (.array .int) > e.platform.maxHeapBytes) (hhK : ¬ k.toNatClampNeg * componentBytes .int > e.platform.maxHeapBytes)
    (hcells : s.heap.size + (1 + n.toNatClampNeg) ≤ e.platform.maxCells) (hslots : s.slotsUsed + (n.toNatClampNeg + n.toNatClampNeg * k.toNatClampNeg) ≤ e.platform.maxSlots) {Q : Unit → Pre}
    (hq : ∀ d' acts', Q () d' acts' ((mnaS s cA cy n.toNatClampNeg k.toNatClampNeg n.toNatClampNeg).setTop { f with stack := .ref s.heap.size :: rest })) :
    Jvm.Sem.wp (Op.multianewarray.sem index 2) Q E e d acts (s.setTop f) := by
  simp only [Op.multianewarray.sem, wp_bind', W.resolveClassAt_ready (State.method?_setTop f hs) hr]
  have e2 : (2 : Nat) = ([.int n, .int k] : List Value).length := rfl
  rw [e2, Op.popN_top (args := [.int n, .int k]) (rest := rest) hs (by rw [hstack]; rfl)]
  simp only [List.mapM_cons, List.mapM_nil, wp_bind', wp_pure']
  unfold Op.multianewarray.make
  simp only [wp_bind', W.ite, hn, if_false, wp_pure', W.theClass, State.vm_setTop, hkA, Option.some.injEq, exists_eq_left', hkindA]
  generalize hf2 : ({ f with stack := rest } : JFrame) = f2
  have hfin : ∀ d' acts', Q () d' acts' ((mnaS s cA cy n.toNatClampNeg k.toNatClampNeg n.toNatClampNeg).setTop { f2 with stack := .ref s.heap.size :: f2.stack }) := by
    intro d' acts'
    rw [← hf2]
    exact hq d' acts'
  refine W.newArray_of (s := s.setTop f2) (k := kA) hkA hkindA hlN hhN (by show s.heap.size < _; omega) (by show s.slotsUsed + _ ≤ _; omega) rfl (fun acts1 => ?_)
  have mk : ∀ (s1 : State) (d' : Bool) (acts' : List Action) (Q' : Addr → Pre), s1.vm = s.vm → s1.heap.size < e.platform.maxCells → s1.slotsUsed + k.toNatClampNeg ≤ e.platform.maxSlots → (∀ acts'', Q' s1.heap.size d' acts'' (s1.pushCell (innC cy k.toNatClampNeg))) → Jvm.Sem.wp (Op.multianewarray.make cy [k]) Q' E e d' acts' s1 := by
    intro s1 d' acts' Q' hv hc hsl hq'
    unfold Op.multianewarray.make
    simp only [wp_bind', W.ite, hk, if_false, wp_pure', W.theClass, hv, hky, Option.some.injEq, exists_eq_left', hkindy]
    exact W.newArray_of (k := ky) (by rw [hv]; exact hky) hkindy hlK hhK hc hsl rfl hq'
  have loop : ∀ (m j : Nat), j + m = n.toNatClampNeg → ∀ (d' : Bool) (acts' : List Action), Jvm.Sem.wp (forIn (List.range' j m) PUnit.unit (fun i (_ : PUnit) => do
      let x ← Op.multianewarray.make cy [k]
      writeLoc s.heap.size i (Value.ref x)
      Pure.pure (ForInStep.yield PUnit.unit))) (fun _ => Jvm.Sem.wp (do
        mark "op.multianewarray"
        pushRef s.heap.size) Q E e) E e d' acts' ((mnaS s cA cy n.toNatClampNeg k.toNatClampNeg j).setTop f2) := by
    intro m
    induction m with
    | zero =>
      intro j hj d' acts'
      obtain rfl : j = n.toNatClampNeg := by omega
      have h7 := (mnaS_facts s cA cy n.toNatClampNeg k.toNatClampNeg n.toNatClampNeg).2.2.2.2.2.2
      simp only [List.range'_zero, List.forIn_nil, wp_pure', wp_bind', W.mark]
      have ht : ((mnaS s cA cy n.toNatClampNeg k.toNatClampNeg n.toNatClampNeg).setTop f2).topJava? = some f2 := State.topJava?_setTop' _ (by rw [h7]; exact hs)
      simp only [W.pushRef, ht, Option.some.injEq, exists_eq_left', State.setTop_setTop]
      exact hfin _ _
    | succ m ih =>
      intro j hj d' acts'
      obtain ⟨h1, h2, h3, h4, h5, h6, h7⟩ := mnaS_facts s cA cy n.toNatClampNeg k.toNatClampNeg j
      rw [List.range'_succ]
      simp only [List.forIn_cons, wp_bind']
      have hjN : j < n.toNatClampNeg := by omega
      have hmul : j * k.toNatClampNeg + k.toNatClampNeg ≤ n.toNatClampNeg * k.toNatClampNeg := by
        have := Nat.mul_le_mul_right k.toNatClampNeg (show j + 1 ≤ n.toNatClampNeg by omega)
        rw [Nat.succ_mul] at this
        exact this
      refine mk _ _ _ _ h5 (by show (mnaS s cA cy n.toNatClampNeg k.toNatClampNeg j).heap.size < _; omega) (by show (mnaS s cA cy n.toNatClampNeg k.toNatClampNeg j).slotsUsed + _ ≤ _; omega) (fun acts2 => ?_)
      simp only [wp_bind', W.writeLoc, wp_pure']
      refine ⟨outC cA n.toNatClampNeg s.heap.size j, ?_, ?_, ?_, ?_, ?_⟩
      · show ((mnaS s cA cy n.toNatClampNeg k.toNatClampNeg j).heap.push _)[s.heap.size]? = _
        rw [Array.getElem?_push, if_neg (by omega)]
        exact h2
      · intro q
        cases q
      · unfold outC
        rw [arrV_size]
        exact hjN
      · have hv : ((mnaS s cA cy n.toNatClampNeg k.toNatClampNeg j).setTop f2).vm.classes[cA]? = some kA := by
          show (mnaS s cA cy n.toNatClampNeg k.toNatClampNeg j).vm.classes[cA]? = some kA
          rw [h5]
          exact hkA
        have hv3 : (mnaS s cA cy n.toNatClampNeg k.toNatClampNeg j).vm.classes[cA]? = some kA := hv
        show State.fitsSlot _ cA .none j (.ref _) = true
        simp [State.fitsSlot, State.slotType?, hv3, hkindA, fits]
      · have e1 : ((mnaS s cA cy n.toNatClampNeg k.toNatClampNeg j).setTop f2).heap.size = s.heap.size + 1 + j := h1
        rw [e1]
        exact ih (j + 1) (by omega) _ _
  have fl : List.find? (fun x => decide (x < 0)) [k] = none := by simp [hk]
  rw [fl]
  dsimp only
  rw [ite_self]
  simp only [wp_bind', wp_pure']
  have hl := loop n.toNatClampNeg 0 (by omega) (if [Value.int n, Value.int k].length = 0 then d else true) acts1
  rw [Std.Legacy.Range.forIn_eq_forIn_range']
  have hz : (Std.Legacy.Range.size [:n.toNatClampNeg]) = n.toNatClampNeg := by simp [Std.Legacy.Range.size]
  rw [hz]
  simp only [wp_pure']
  exact hl
end MNA
