/-! rows that make cells -/
set_option maxRecDepth 100000 in
theorem shl_size : ∀ a, a < 137 → ∀ c, c < 13 → (gp shl a).1 = 4 + c → (gp shl a).2 = (clT c).2.2 := by decide +kernel
set_option maxRecDepth 100000 in
theorem shl_le : ∀ a, a < 137 → (gp shl a).2 ≤ 240 := by decide +kernel
set_option maxRecDepth 100000 in
theorem ftT_le : ∀ c, c < 13 → ∀ j, j < (clT c).2.2 → gn (gll ftT c) j ≤ 3 := by decide +kernel
theorem shT_of {L a : Nat} (h : 0 < a) : shT L a = if a < 137 then gp shl a else (7, 7) := by
  unfold shT
  rw [show Nat.beq a 0 = false from by
    cases a
    · omega
    · rfl]
  by_cases q : a < 137
  · rw [if_pos q, Nat.blt_eq.mpr q]; rfl
  · rw [if_neg q, show Nat.blt a 137 = false from by
      cases hq : Nat.blt a 137
      · rfl
      · exact absurd (Nat.blt_eq.mp hq) q]; rfl
theorem shT_size {L a c : Nat} (h0 : 0 < a) (hc : c < 13) (h : (shT L a).1 = 4 + c) : (shT L a).2 = (clT c).2.2 := by
  rw [shT_of h0] at h ⊢
  by_cases q : a < 137
  · rw [if_pos q] at h ⊢
    exact shl_size a q c hc h
  · rw [if_neg q] at h ⊢
    have : c = 3 := by simp at h; omega
    subst this
    rfl
theorem shT_le {L a : Nat} (h0 : 0 < a) : (shT L a).2 ≤ 240 := by
  rw [shT_of h0]
  by_cases q : a < 137
  · rw [if_pos q]
    exact shl_le a q
  · rw [if_neg q]
    decide
section WN
variable {S : Type} {rd : S → Nat → Nat → Option Nat} {G : Gx} {p : Program} {l : Launch} {e : Env} {R : Room} {s : State} {m : MethodId} {args : Array Value} {below : List Frame} {meth : Method} {c : Code} {n0 nL : Nat} {Q : State → Prop}
variable {cc : ByteArray} {h : Hp S} {pc : Nat} {ls : LV} {r : List Value} {oc : Nat} {H : Heap} {locs : List Loc}
theorem zer_N {k : Nat} (hz : zer rd h) : zer rd (hN h k) := fun b hb i => hz b (by have : h.1 + k ≤ b := hb; omega) i
/-- a cell behind the last -/
theorem fin_new {H1 : Heap} {va : va_E} {k : Nat} (hs : s.heap.size + 5 = gB G + n0) (h5 : 5 ≤ n0) (hn : n0 ≤ h.1) (hR : RelH rd G h H) (hS : va_S (AA G) s.heap H locs) {cls : Array Slot} (hL : LRel G cls nL ls) (hsz : H.size + 5 = gB G + h.1) (z1 : H1.size = H.size + 1) (o1 : ∀ q, q < H.size → H1[q]? = H[q]?) (hva : va_at (gD G) vwCl (H.size, cellE rd G (hN h 1) h.1) H1) {pc' : Nat}
    (kk : Wst rd G p l e R s m args below meth c n0 nL Q (hN h 1) pc' ls (.ref h.1 :: r)) : W p l e R s m args below meth c H1 locs (h.1 - n0 + 1) (szs (gL G) h.1 - szs (gL G) n0 + (shT (gL G) h.1).2) Q (F0 m pc' cls (.ref H.size :: r.map (phv G))) := by
  have e0 : gB G + (h.1 - 5) = H.size := by have := hR.1; omega
  have hP1 : va_P (gD G) vwCl (wld rd G (hN h 1)) H1 := by
    rw [← wld_push hR.1 (h' := hN h 1) rfl (fun b _ => cellE_eq rfl rfl (fun _ => rfl)), e0]
    refine (hR.2.2.1.kept (fun k x hx => o1 x.1 ((hR.2.2.1 k x hx).lt))).app (fun k x hx => ?_)
    have hk : k < 1 := (List.getElem?_eq_some_iff.mp hx).1
    rw [show k = 0 by omega] at hx
    cases hx
    exact hva
  have hS1 : va_S (AA G) s.heap H1 locs := ⟨by rw [z1]; exact Nat.le_trans hS.1 (Nat.le_succ _), fun x g1 g2 => (o1 x (Nat.lt_of_lt_of_le g1 hS.1)).trans (hS.2.1 x g1 g2), hS.2.2⟩
  have k1 := kk (show n0 ≤ h.1 + 1 by omega) H1 locs cls ⟨show 5 ≤ h.1 + 1 by omega, Nat.le_trans hR.2.1 (Nat.le_succ _), hP1, zer_N hR.2.2.2⟩ hS1 hL
  have k2 : W p l e R s m args below meth c H1 locs (h.1 + 1 - n0) (szs (gL G) (h.1 + 1) - szs (gL G) n0) Q (F0 m pc' cls (.ref (phi G h.1) :: r.map (phv G))) := k1
  rw [phi5 hR.1, e0] at k2
  have hm := szs_le (gL G) hn
  have e2 : szs (gL G) (h.1 + 1) = szs (gL G) h.1 + (shT (gL G) h.1).2 := rfl
  exact W.cs (by omega) (by omega) k2
theorem w_new (hx : p.tables.exec = Jvm.exec) (hb : c.code = cc) (hts : ∀ w ∈ WL, w.before args s = true) (hown : s.vm.findClass (own oc) = some m.cls) (hK : KU G s) (hs : s.heap.size + 5 = gB G + n0) (h5 : 5 ≤ n0) {ix ci : Nat} (hf : (oc, ix, ci) ∈ ntab) (hci : ci < 13) (hsh : (shT (gL G) h.1).1 = 4 + ci) (hcl : h.1 + 1 - n0 ≤ R.cells) (hsl : szs (gL G) (h.1 + 1) - szs (gL G) n0 ≤ R.slots)
    (hd : decode cc pc = .ok (.new ix, 3)) (kk : Wst rd G p l e R s m args below meth c n0 nL Q (hN h 1) (pc + 3) ls (.ref h.1 :: r)) : Wst rd G p l e R s m args below meth c n0 nL Q h pc ls r := by
  intro hn H locs cls hR hS hL
  refine W_size (fun hle => ?_)
  have hsz := size_of hs h5 hn hR hS hle
  obtain ⟨ty0, q1, q2, q3, q4⟩ := clF hci
  have hKn := hK.1.1 ci _ (clT_at hci)
  have h0 : 0 < h.1 := by have := hR.1; omega
  have hN' := shT_size (L := gL G) h0 hci hsh
  have hm := szs_le (gL G) hn
  have e2 : szs (gL G) (h.1 + 1) = szs (gL G) h.1 + (shT (gL G) h.1).2 := rfl
  have w1 : Cond.classLink (own oc) ix (clT ci).1 ∈ WL := in_WLh (List.mem_flatMap.mpr ⟨_, hf, List.mem_cons_self⟩)
  have w2 : Cond.instantiable (clT ci).1 (clT ci).2.2 ∈ WL := in_WLh (List.mem_flatMap.mpr ⟨_, hf, List.mem_cons_of_mem _ List.mem_cons_self⟩)
  have w3 : Cond.initialized (clT ci).1 ∈ WL := in_WLg (List.mem_map.mpr ⟨(clT ci).1, by
    have : ∀ c, c < 13 → (clT c).1 ∈ iniL := by decide +kernel
    exact this ci hci, rfl⟩)
  refine W.newcK hx hb hown (hts _ w1) (hts _ w2) (hts _ w3) rfl hd (by omega) (by omega) hKn.2.1 rfl (fun H1 kC hkC e1 z1 o1 => ?_)
  rw [← hN']
  refine fin_new (k := 1) (va := cellE rd G (hN h 1) h.1) hs h5 hn hR hS hL hsz z1 o1 ?_ kk
  rw [cellE_4 hsh]
  refine ⟨_, clT_at hci, (u_born ty0 hts (clI hci) hKn hkC e1 q1).to (fun j hj => ?_)⟩
  show defaultValue (ty0 j) = (fds rd G (hN h 1) ci h.1).getD j .null
  rw [List.getD_eq_getElem?_getD, fds_get hj]
  simp only [Option.getD_some]
  obtain ⟨z1, z2, z3⟩ := hR.2.2.2 h.1 (Nat.le_refl _) j
  unfold fld
  show _ = (match gn (gll ftT ci) j with | 1 => Value.long (h.2.2.1 h.1 j) | 2 => va_rf ((rd h.2.2.2 h.1 j).map (phi G)) | _ => Value.int (h.2.1 h.1 j))
  rw [z1, z2, z3]
  have hle := ftT_le ci hci j hj
  have hq := q3 j hj
  rw [hq] at hle ⊢
  cases hty : ty0 j <;> rw [hty] at hle <;> first | rfl | (exfalso; revert hle; simp [tgO])
theorem w_newarr (hx : p.tables.exec = Jvm.exec) (hb : c.code = cc) (hts : ∀ w ∈ WL, w.before args s = true) (hK : KU G s) (hs : s.heap.size + 5 = gB G + n0) (h5 : 5 ≤ n0) {t : ArrayType} {n : Int32} (ht : ((shT (gL G) h.1).1 = 0 ∧ t = .int) ∨ ((shT (gL G) h.1).1 = 1 ∧ t = .boolean)) (hlen : (shT (gL G) h.1).2 = n.toNatClampNeg) (hneg : ¬ n < 0) (hcl : h.1 + 1 - n0 ≤ R.cells) (hsl : szs (gL G) (h.1 + 1) - szs (gL G) n0 ≤ R.slots)
    (hd : decode cc pc = .ok (.newarray t, 2)) (kk : Wst rd G p l e R s m args below meth c n0 nL Q (hN h 1) (pc + 2) ls (.ref h.1 :: r)) : Wst rd G p l e R s m args below meth c n0 nL Q h pc ls (.int n :: r) := by
  intro hn H locs cls hR hS hL
  refine W_size (fun hle => ?_)
  have hsz := size_of hs h5 hn hR hS hle
  have h0 : 0 < h.1 := by have := hR.1; omega
  have hm := szs_le (gL G) hn
  have e2 : szs (gL G) (h.1 + 1) = szs (gL G) h.1 + (shT (gL G) h.1).2 := rfl
  have hb240 := shT_le (L := gL G) h0
  have hzf : (hN h 1).2.1 h.1 = fun _ => (0 : Int32) := funext fun j => (hR.2.2.2 h.1 (Nat.le_refl _) j).1
  rcases ht with ⟨q, rfl⟩ | ⟨q, rfl⟩
  · refine va_newaK hx hb (atype := .int) (hts _ (in_WLm (List.mem_append_left _ List.mem_cons_self))) rfl hd rfl hneg hlen.symm (by show _ * 4 ≤ _; omega) (by omega) (by omega) rfl (fun H1 cA e1 z1 o1 hAr hNm => ?_)
    have hc : cA = gI G := Option.some.inj (hNm.symm.trans (hK.1.2 0 _ rfl).2)
    subst hc
    refine fin_new (k := 1) (va := cellE rd G (hN h 1) h.1) hs h5 hn hR hS hL hsz z1 o1 ?_ kk
    rw [cellE_0 q, hzf]
    exact e1
  · refine va_newaK hx hb (atype := .boolean) (hts _ (in_WLm (List.mem_append_left _ (List.mem_cons_of_mem _ List.mem_cons_self)))) rfl hd rfl hneg hlen.symm (by show _ * 1 ≤ _; omega) (by omega) (by omega) rfl (fun H1 cA e1 z1 o1 hAr hNm => ?_)
    have hc : cA = gZ G := Option.some.inj (hNm.symm.trans (hK.1.2 1 _ rfl).2)
    subst hc
    refine fin_new (k := 1) (va := cellE rd G (hN h 1) h.1) hs h5 hn hR hS hL hsz z1 o1 ?_ kk
    rw [cellE_1 q, hzf]
    exact e1
theorem w_anewarr (hx : p.tables.exec = Jvm.exec) (hb : c.code = cc) (hts : ∀ w ∈ WL, w.before args s = true) (hown : s.vm.findClass (own oc) = some m.cls) (hK : KU G s) (hs : s.heap.size + 5 = gB G + n0) (h5 : 5 ≤ n0) {ix : Nat} {n : Int32} (hf : (oc, ix) ∈ atab) (ht : (shT (gL G) h.1).1 = 2) (hlen : (shT (gL G) h.1).2 = n.toNatClampNeg) (hneg : ¬ n < 0) (hcl : h.1 + 1 - n0 ≤ R.cells) (hsl : szs (gL G) (h.1 + 1) - szs (gL G) n0 ≤ R.slots)
    (hd : decode cc pc = .ok (.anewarray ix, 3)) (kk : Wst rd G p l e R s m args below meth c n0 nL Q (hN h 1) (pc + 3) ls (.ref h.1 :: r)) : Wst rd G p l e R s m args below meth c n0 nL Q h pc ls (.int n :: r) := by
  intro hn H locs cls hR hS hL
  refine W_size (fun hle => ?_)
  have hsz := size_of hs h5 hn hR hS hle
  have h0 : 0 < h.1 := by have := hR.1; omega
  have hm := szs_le (gL G) hn
  have e2 : szs (gL G) (h.1 + 1) = szs (gL G) h.1 + (shT (gL G) h.1).2 := rfl
  have hb240 := shT_le (L := gL G) h0
  have w1 : Cond.classLink (own oc) ix "DryLand$Line" ∈ WL := in_WLm (List.mem_append_right _ (List.mem_append_left _ (List.mem_map.mpr ⟨_, hf, rfl⟩)))
  refine W.anew hx hb hown (hts _ w1) (va_AO.use hK.2.2.1) rfl hd rfl hneg (by omega) (by omega) (by omega) (fun cA kA comp f1 f2 f3 f4 => ?_)
  have hc : cA = gN G := by
    obtain ⟨_, _, _, _, _, hq⟩ := (hK.1.2 2 _ rfl).2
    exact Option.some.inj (f1.symm.trans hq)
  subst hc
  rw [← hlen]
  refine fin_new (k := 1) (va := cellE rd G (hN h 1) h.1) hs h5 hn hR hS hL hsz (by simp) (fun q hq => by rw [Array.getElem?_push, if_neg (Nat.ne_of_lt hq)]) ?_ kk
  rw [cellE_2 ht]
  show (H.push _)[H.size]? = some (vp_cell _ _)
  rw [vp_cell_q, Array.getElem?_push, if_pos rfl]
  have e : (fun j => va_rf ((rd (hN h 1).2.2.2 h.1 j).map (phi G))) = fun _ => Value.null := funext fun j => by
    have : rd (hN h 1).2.2.2 h.1 j = none := (hR.2.2.2 h.1 (Nat.le_refl _) j).2.2
    rw [this]
    rfl
  rw [e, ← arrV_new]
end WN
