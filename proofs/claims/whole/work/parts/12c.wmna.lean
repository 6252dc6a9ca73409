theorem wrm_rd {S : Type} {rd : S → Nat → Nat → Option Nat} {wr : S → Nat → Nat → Nat → Option S} (hwr : ∀ (r : S) (a i v : Nat) (r' : S), wr r a i v = some r' → ∀ b j, rd r' b j = if b = a ∧ j = i then some v else rd r b j) {a : Nat} : ∀ {n : Nat} {r r' : S}, wrm wr a n r = some r' → ∀ b j, rd r' b j = if b = a ∧ j < n then some (a + 1 + j) else rd r b j
  | 0, r, r', h, b, j => by
    cases h
    rw [if_neg (fun z => absurd z.2 (by omega))]
  | n + 1, r, r', h, b, j => by
    obtain ⟨z, h1, h2⟩ := Option.bind_eq_some_iff.mp (show (wrm wr a n r).bind (fun t => wr t a n (a + 1 + n)) = some r' from h)
    rw [hwr _ _ _ _ _ h2 b j, wrm_rd hwr h1 b j]
    by_cases hb : b = a
    · by_cases hj : j = n
      · rw [if_pos ⟨hb, hj⟩, if_pos ⟨hb, by omega⟩, hj]
      · rw [if_neg (fun q => hj q.2)]
        by_cases hl : j < n
        · rw [if_pos ⟨hb, hl⟩, if_pos ⟨hb, by omega⟩]
        · rw [if_neg (fun q => hl q.2), if_neg (fun q => by omega)]
    · rw [if_neg (fun q => hb q.1), if_neg (fun q => hb q.1), if_neg (fun q => hb q.1)]
theorem shm_at {L a m : Nat} : ∀ {n : Nat}, shm L a m n = true → ∀ j, j < n → (shT L (a + 1 + j)).1 = 0 ∧ (shT L (a + 1 + j)).2 = m
  | 0, _, j, hj => absurd hj (by omega)
  | n + 1, h, j, hj => by
    have h : (shm L a m n && (Nat.beq (shT L (a + 1 + n)).1 0 && Nat.beq (shT L (a + 1 + n)).2 m)) = true := h
    simp only [Bool.and_eq_true] at h
    by_cases e : j = n
    · rw [e]
      exact ⟨nbeq h.2.1, nbeq h.2.2⟩
    · exact shm_at h.1 j (by omega)
theorem szs_mna {L a m N : Nat} (h0 : (shT L a).2 = N) (h : ∀ j, j < N → (shT L (a + 1 + j)).2 = m) : ∀ n, n ≤ N → szs L (a + 1 + n) = szs L a + N + n * m
  | 0, _ => by
    show szs L a + (shT L a).2 = _
    rw [h0]; omega
  | n + 1, hn => by
    show szs L (a + 1 + n) + (shT L (a + 1 + n)).2 = _
    rw [szs_mna h0 h n (by omega), h n (by omega), Nat.succ_mul]
    omega
set_option maxRecDepth 100000 in
theorem shl_3 : ∀ a, a < 137 → (gp shl a).1 = 3 → 1 ≤ (gp shl a).2 := by decide +kernel
theorem mna_cold {E : CtlPost} {e : Env} {d : Bool} {acts : List Action} {s : State} {f : JFrame} {Q : Unit → Pre} {index c dm : Nat} {vm' : Vm} (hs : s.topJava?.isSome) (hg : (Jvm.resolveClass f.method.cls index).Gives e.toSetting s.vm (.ok c) vm') (hr : vm'.classReady f.method.cls index c) (hsz : vm'.classes.size ≤ s.vm.classes.size := by no_record) :
    Jvm.Sem.wp (Op.multianewarray.sem index dm) Q E e d acts (s.setTop f) ↔ Jvm.Sem.wp (Op.multianewarray.sem index dm) Q E e d acts ((s.setVm vm').setTop f) := by
  simp only [Op.multianewarray.sem, wp_bind']
  exact W.resolveClassAt_transfer (s := s.setTop f) (State.method?_setTop f hs) hg hr hsz
section WMNA
variable {S : Type} {rd : S → Nat → Nat → Option Nat} {wr : S → Nat → Nat → Nat → Option S} {G : Gx} {p : Program} {l : Launch} {e : Env} {R : Room} {s : State} {m : MethodId} {args : Array Value} {below : List Frame} {meth : Method} {c : Code} {n0 nL : Nat} {Q : State → Prop}
variable {cc : ByteArray} {h : Hp S} {pc : Nat} {ls : LV} {r : List Value} {oc : Nat}
theorem mna_stand {T : State} {locs : List Loc} {cells slots : Nat} (cA cy : ClassId) (N K : Nat) (X : Stand p l e R s m args below meth c T locs cells slots) : ∀ j : Nat, ∃ Ls : List Loc, Stand p l e R s m args below meth c (mnaS T cA cy N K j) (locs ++ Ls) (cells + 1 + j) (slots + N + j * K) ∧ ∀ q ∈ Ls, q.base = T.heap.size
  | 0 => by
    refine ⟨[], ?_, fun q hq => absurd hq List.not_mem_nil⟩
    have := X.pushed { cls := cA, slots := Array.replicate N .null, vm := .none }
    simpa [mnaS] using this
  | j + 1 => by
    obtain ⟨Ls, X1, h1⟩ := mna_stand cA cy N K X j
    have f := mnaS_facts T cA cy N K j
    have X2 := X1.pushed (innC cy K)
    have X3 := X2.stored (a := T.heap.size) (cell := outC cA N T.heap.size j) (by
      show ((mnaS T cA cy N K j).heap.push _)[T.heap.size]? = _
      rw [Array.getElem?_push, if_neg (by omega)]
      exact f.2.1) j (.ref (T.heap.size + 1 + j))
    refine ⟨Ls ++ [⟨T.heap.size, j⟩], ?_, fun q hq => ?_⟩
    · rw [← List.append_assoc]
      have e1 : slots + N + (j + 1) * K = slots + N + j * K + (innC cy K).slots.size := by
        show _ = slots + N + j * K + (Array.replicate K (Value.int 0)).size
        rw [Nat.succ_mul]
        simp
        omega
      rw [e1]
      exact X3
    · rcases List.mem_append.mp hq with z | z
      · exact h1 q z
      · simp at z
        rw [z]
set_option maxHeartbeats 4000000 in
theorem w_mna (hwr : ∀ (r : S) (a i v : Nat) (r' : S), wr r a i v = some r' → ∀ b j, rd r' b j = if b = a ∧ j = i then some v else rd r b j) (hx : p.tables.exec = Jvm.exec) (hb : c.code = cc) (hts : ∀ w ∈ WL, w.before args s = true) (hown : s.vm.findClass (own oc) = some m.cls) (hK : KU G s) (hs : s.heap.size + 5 = gB G + n0) (h5 : 5 ≤ n0) {ix : Nat} {x y : Int32} (hf : (oc, ix) ∈ utab) (h3 : (shT (gL G) h.1).1 = 3) (hlen : (shT (gL G) h.1).2 = x.toNatClampNeg) (hnx : ¬ x < 0) (hsm : shm (gL G) h.1 y.toNatClampNeg x.toNatClampNeg = true) (hny : ¬ y < 0) {s2 : S} (hw : wrm wr h.1 x.toNatClampNeg h.2.2.2 = some s2)
    (hcl : h.1 + (1 + x.toNatClampNeg) - n0 ≤ R.cells) (hsl : szs (gL G) (h.1 + (1 + x.toNatClampNeg)) - szs (gL G) n0 ≤ R.slots) (hd : decode cc pc = .ok (.multianewarray ix 2, 4)) (kk : Wst rd G p l e R s m args below meth c n0 nL Q (hR (hN h (1 + x.toNatClampNeg)) s2) (pc + 4) ls (.ref h.1 :: r)) : Wst rd G p l e R s m args below meth c n0 nL Q h pc ls (.int y :: .int x :: r) := by
  intro hn H locs cls hR0 hS hL
  refine W_size (fun hle => ?_)
  have hsz := size_of hs h5 hn hR0 hS hle
  have hm5 := hR0.1
  have h0 : 0 < h.1 := by omega
  have hsh := shm_at hsm
  have hb1 := shT_le (L := gL G) h0
  have hN1 : 1 ≤ x.toNatClampNeg := by
    rw [← hlen]
    rw [shT_of h0] at h3 ⊢
    by_cases q : h.1 < 137
    · rw [if_pos q] at h3 ⊢
      exact shl_3 _ q h3
    · rw [if_neg q] at h3
      simp at h3
  have hb2 : y.toNatClampNeg ≤ 240 := by
    have := shT_le (L := gL G) (a := h.1 + 1 + 0) (by omega)
    rw [(hsh 0 (by omega)).2] at this
    exact this
  have hszs := szs_mna hlen (fun j hj => (hsh j hj).2) x.toNatClampNeg (Nat.le_refl _)
  rw [show h.1 + 1 + x.toNatClampNeg = h.1 + (1 + x.toNatClampNeg) by omega] at hszs
  have hm1 := szs_le (gL G) hn
  intro T hT X
  have hpl : e.platform.magicAccessors = ({} : Platform).magicAccessors := by rw [X.admits.platform]
  have w1 : Cond.classLink (own oc) ix "[[I" ∈ WL := in_WLm (List.mem_append_right _ (List.mem_append_right _ (List.mem_append_left _ (List.mem_map.mpr ⟨_, hf, rfl⟩))))
  obtain ⟨cA, hfA, hcl1⟩ := Cond.classLink_spec hown (hts _ w1) e.platform hpl
  obtain rfl : cA = gA G := Option.some.inj (hfA.symm.trans (hK.1.2 3 _ rfl).2)
  obtain ⟨hg₁, hwarm₁, hready₁⟩ := State.classEntry (e := e) X.warmed hcl1
  generalize T.vm.noted m.cls ix (.cls (gA G)) = vm₁ at hg₁ hwarm₁ hready₁
  have hal : s.vm.Alike vm₁ := hwarm₁.alike
  obtain ⟨kA, hkA, hkindA⟩ := hK.2.2.2.1
  obtain ⟨kA₁, hkA₁, heA⟩ := hal.2.2 _ _ hkA
  have hkindA₁ : kA₁.kind = .array (gI G) (.array .int) := by rw [heA]; exact hkindA
  obtain ⟨-, ky, hky, ci, hkindy⟩ := (hK.1.2 0 _ rfl).1 0 (fun _ => .null)
  obtain ⟨ky₁, hky₁, hey⟩ := hal.2.2 _ _ hky
  have hkindy₁ : ky₁.kind = .array ci .int := by rw [hey]; exact hkindy
  obtain ⟨r1, r2⟩ := X.roomAbove (a := 1 + x.toNatClampNeg) (b := x.toNatClampNeg + x.toNatClampNeg * y.toNatClampNeg) (by omega) (by omega)
  have X₁ := X.noted hwarm₁
  obtain ⟨Ls, X2, hLs⟩ := mna_stand (gA G) (gI G) x.toNatClampNeg y.toNatClampNeg X₁ x.toNatClampNeg
  obtain ⟨f1, f2, f3, f4, -, -, -⟩ := mnaS_facts (T.setVm vm₁) (gA G) (gI G) x.toNatClampNeg y.toNatClampNeg x.toNatClampNeg
  have hTh : (T.setVm vm₁).heap = H := hT
  rw [hTh] at f1 f2 f3 f4 hLs
  generalize hF : mnaS (T.setVm vm₁) (gA G) (gI G) x.toNatClampNeg y.toNatClampNeg x.toNatClampNeg = F at X2 f1 f2 f3 f4
  have hrd := wrm_rd hwr hw
  have e0 : gB G + (h.1 - 5) = H.size := by omega
  have hP1 : va_P (gD G) vwCl (wld rd G (hR (hN h (1 + x.toNatClampNeg)) s2)) F.heap := by
    intro k q hk
    obtain ⟨k1, rfl⟩ := wld_at hk
    have k1 : k < h.1 + (1 + x.toNatClampNeg) - 5 := k1
    by_cases q1 : k + 5 < h.1
    · have hg := wld_get (rd := rd) (G := G) (h := h) (a := k + 5) (by omega) q1
      have ho := hR0.2.2.1 _ _ hg
      have ec : cellE rd G (hR (hN h (1 + x.toNatClampNeg)) s2) (k + 5) = cellE rd G h (k + 5) := cellE_eq rfl rfl (fun i => by
        show rd s2 (k + 5) i = _
        rw [hrd, if_neg (fun z => by omega)])
      rw [ec]
      rw [phi5 (by omega), show k + 5 - 5 = k by omega] at ho
      exact ho.kept (f3 _ (by omega))
    · by_cases q2 : k + 5 = h.1
      · rw [q2, show gB G + k = H.size by omega, cellE_3 h3]
        show F.heap[H.size]? = some (vp_cell _ _)
        rw [f2, vp_cell_q, hlen]
        unfold outC
        congr 2
        funext i
        show _ = va_rf ((rd s2 h.1 i).map (phi G))
        rw [hrd]
        by_cases qi : i < x.toNatClampNeg
        · rw [if_pos qi, if_pos ⟨rfl, qi⟩]
          show _ = Value.ref (phi G (h.1 + 1 + i))
          have ep : phi G (h.1 + 1 + i) = H.size + 1 + i := by
            rw [phi5 (by omega)]
            omega
          rw [ep]
        · rw [if_neg qi, if_neg (fun z => qi z.2), (hR0.2.2.2 h.1 (Nat.le_refl _) i).2.2]
          rfl
      · obtain ⟨j, hj⟩ : ∃ j, k + 5 = h.1 + 1 + j := ⟨k + 5 - (h.1 + 1), by omega⟩
        have hjl : j < x.toNatClampNeg := by omega
        obtain ⟨s1, s3⟩ := hsh j hjl
        rw [hj, show gB G + k = H.size + 1 + j by omega, cellE_0 s1]
        show F.heap[H.size + 1 + j]? = some (vp_cell _ _)
        rw [f4 j hjl, vp_cell_i, s3]
        have ez : (hR (hN h (1 + x.toNatClampNeg)) s2).2.1 (h.1 + 1 + j) = fun _ => (0 : Int32) := funext fun i => (hR0.2.2.2 (h.1 + 1 + j) (by omega) i).1
        rw [ez]
        unfold innC
        rw [arrV_new]
  have hz1 : zer rd (hR (hN h (1 + x.toNatClampNeg)) s2) := by
    intro b hb' i
    have hb' : h.1 + (1 + x.toNatClampNeg) ≤ b := hb'
    have hz := hR0.2.2.2 b (by omega) i
    exact ⟨hz.1, hz.2.1, by show rd s2 b i = none; rw [hrd, if_neg (fun z => by omega)]; exact hz.2.2⟩
  have hS1 : va_S (AA G) s.heap F.heap (locs ++ Ls) := ⟨by rw [f1]; have := hS.1; omega, fun q g1 g2 => (f3 q (Nat.lt_of_lt_of_le g1 hS.1)).trans (hS.2.1 q g1 g2), fun q hq => by
    rcases List.mem_append.mp hq with z | z
    · exact hS.2.2 q z
    · rw [hLs q z]
      show gB G ≤ H.size
      omega⟩
  have k1 := kk (show n0 ≤ h.1 + (1 + x.toNatClampNeg) by omega) F.heap (locs ++ Ls) cls ⟨show 5 ≤ h.1 + _ by omega, Nat.le_trans hR0.2.1 (Nat.le_add_right _ _), hP1, hz1⟩ hS1 hL
  have k2 := W.cs (cells := h.1 - n0 + 1 + x.toNatClampNeg) (slots := szs (gL G) h.1 - szs (gL G) n0 + x.toNatClampNeg + x.toNatClampNeg * y.toNatClampNeg) (show _ = h.1 + (1 + x.toNatClampNeg) - n0 by omega) (show _ = szs (gL G) (h.1 + (1 + x.toNatClampNeg)) - szs (gL G) n0 by omega) k1
  obtain ⟨t, a1, b1⟩ := k2 F rfl X2
  refine ⟨t, ?_, b1⟩
  have a2 : Steps p.tables e below (F.setTop (F0 m (pc + 4) cls (.ref (phi G h.1) :: r.map (phv G)))) t := a1
  rw [phi5 hm5, e0] at a2
  refine Steps.instr (c := c) (by simpa using X.here) ?_
  have hd' : decode c.code (F0 m pc cls ((.int y :: .int x :: r : List Value).map (phv G))).pc = .ok (.multianewarray ix 2, 4) := by rw [hb]; exact hd
  rw [hd']
  dsimp only
  rw [hx]
  show wpRun (Op.multianewarray.sem ix 2) _ _ e _
  unfold wpRun
  have htop : T.topJava?.isSome := X.here.top
  rw [mna_cold (s := T) (f := F0 m pc cls ((.int y :: .int x :: r : List Value).map (phv G))) htop hg₁ hready₁]
  refine mna_wp (s := T.setVm vm₁) (f := F0 m pc cls ((.int y :: .int x :: r : List Value).map (phv G))) (kA := kA₁) (ky := ky₁) (n := x) (k := y) (rest := r.map (phv G)) htop hready₁ hkA₁ hkindA₁ hky₁ hkindy₁ rfl hnx hny ?_ ?_ ?_ ?_ ?_ ?_ (fun d' acts' => ?_)
  · rw [Launch.admits_arrayLengthLimit X.admits]; omega
  · rw [Launch.admits_arrayLengthLimit X.admits]; omega
  · rw [Launch.admits_maxHeapBytes X.admits]; show ¬ _ * 4 > 536870912; omega
  · rw [Launch.admits_maxHeapBytes X.admits]; show ¬ _ * 4 > 536870912; omega
  · show T.heap.size + _ ≤ _; omega
  · show T.slotsUsed + _ ≤ _; omega
  · intro acts2
    rw [hF, hTh, afterInstr_ok]
    exact a2
end WMNA
