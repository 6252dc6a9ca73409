/-! contracts of methods, as runs of the abstract machine; calls -/
theorem AOK.moved {G : Gx} {u U : State} (hvm : u.vm.Alike U.vm) (h : AOK G u) : AOK G U := by
  obtain ⟨k, h1, h2⟩ := h
  obtain ⟨k', hk', he⟩ := hvm.2.2 _ _ h1
  exact ⟨k', hk', by rw [he]; exact h2⟩
theorem KU.enter {G : Gx} {s U : State} {H : Heap} {locs : List Loc} (hK : KU G s) (hS : va_S (AA G) s.heap H locs) (hU : U.heap = H) (hW : s.WarmedH U.vm) : KU G U := by
  obtain ⟨h1, h2, h3, h4, h5, h6⟩ := hK
  refine ⟨va_K.moved hW.alike h1, fun e he => ?_, va_AO.moved hW.alike h3, h4.moved hW.alike, fun k hk => ?_, fun k h0 hk => ?_⟩
  · exact va_Nw.warmM hW (h2 e he)
  · rw [hU]
    exact va_T.moved hW.alike ((h5 k hk).kept (fun a h1 h2 => hS.2.1 a h1 h2))
  · rw [hU]
    exact va_Z.moved hW.alike ((h6 k h0 hk).kept (fun a h1 h2 => hS.2.1 a h1 h2))
theorem KU.blind {G : Gx} {U : State} {g : JFrame} {mk : MethodId} {a : Array Value} (hK : KU G U) : KU G (U.calling g mk a) := by
  have hv : U.vm.Alike (U.calling g mk a).vm := Vm.Alike.refl U.vm
  obtain ⟨h1, h2, h3, h4, h5, h6⟩ := hK
  exact ⟨va_K.moved hv h1, fun e he => va_Nw.same rfl rfl (h2 e he), va_AO.moved hv h3, h4.moved hv, fun k hk => va_T.moved hv (h5 k hk), fun k h0 hk => va_Z.moved hv (h6 k h0 hk)⟩
section MC
variable {S : Type} (rd : S → Nat → Nat → Option Nat) (G : Gx)
def Pcc (as : List Value) (h : Hp S) : Array Value → State → Prop := va_Pc (as.map (phv G)) (fun U => KU G U ∧ RelH rd G h U.heap ∧ U.heap.size + 5 = gB G + h.1)
def Qcc (v : Option Value) (h' : Hp S) : Array Value → State → Outcome → State → Prop := fun _ st o t => o = .returned (v.map (phv G)) ∧ RelH rd G h' t.heap ∧ va_F (AA G) st t
noncomputable def rmc (M : Nat) (h h' : Hp S) : Room := { frames := (mi M).2.2.2.2.2.2.1, cells := h'.1 - h.1, slots := szs (gL G) h'.1 - szs (gL G) h.1, locals := (mi M).2.2.2.2.2.2.2 }
def MetC (l : Launch) (M : Nat) (as : List Value) (h : Hp S) (v : Option Value) (h' : Hp S) : Prop := Met l (yM M) (codeW (mi M) :: WL) (rmc G M h h') (Pcc rd G as h) (Qcc rd G v h') (h'.1 - h.1) (szs (gL G) h'.1 - szs (gL G) h.1) (AA G)
end MC
theorem Pcc.blind {S : Type} {rd : S → Nat → Nat → Option Nat} {G : Gx} {as : List Value} {h : Hp S} : FrameBlind (Pcc rd G as h) := by
  intro a U g mk hq
  obtain ⟨q0, q1, q2, q3⟩ := hq
  exact ⟨q0, q1.blind, q2, q3⟩
theorem goodIn_M {M M' : Nat} (hM : codeW (mi M') ∈ WL) : GoodIn (codeW (mi M) :: WL) (codeW (mi M') :: WL) := by
  intro w hw
  rcases List.mem_cons.mp hw with e | hw
  · subst e
    exact ⟨List.mem_cons_of_mem _ hM, WL_good _ hM⟩
  · exact ⟨List.mem_cons_of_mem _ hw, WL_good _ hw⟩
theorem goodIn_W {ws : List Cond} (h : ∀ w ∈ ws, w ∈ WL) : GoodIn WL ws := fun w hw => ⟨h w hw, WL_good w (h w hw)⟩
set_option maxRecDepth 100000 in
theorem mt_take (M : Nat) (h : M < 271) : codeW (mi M) ∈ WL := by
  have key : ∀ (l : List MI) (n : Nat), n < l.length → gmi l n ∈ l := by
    intro l
    induction l with
    | nil => intro n hn; simp at hn
    | cons a t ih =>
      intro n hn
      cases n with
      | zero => exact List.mem_cons_self
      | succ n => exact List.mem_cons_of_mem _ (ih n (by simpa using hn))
  have app : ∀ (l1 l2 : List MI) (n : Nat), n < l1.length → gmi (l1 ++ l2) n = gmi l1 n := by
    intro l1
    induction l1 with
    | nil => intro l2 n hn; simp at hn
    | cons a t ih =>
      intro l2 n hn
      cases n with
      | zero => rfl
      | succ n => exact ih l2 n (by simpa using hn)
  have app2 : ∀ (l1 l2 : List MI) (n : Nat), l1.length ≤ n → gmi (l1 ++ l2) n = gmi l2 (n - l1.length) := by
    intro l1
    induction l1 with
    | nil => intro l2 n _; rfl
    | cons a t ih =>
      intro l2 n hn
      cases n with
      | zero => simp at hn
      | succ n =>
        show gmi (t ++ l2) n = _
        rw [ih l2 n (by simpa using hn)]
        congr 1
        simp
  have e0 : mtA0.length = 40 := rfl
  have e1 : mtA1.length = 40 := rfl
  have e2 : mtA2.length = 40 := rfl
  have e3 : mtA3.length = 40 := rfl
  have e4 : mtA4.length = 40 := rfl
  have e5 : mtA5.length = 40 := rfl
  have e6 : mtA6.length = 32 := rfl
  unfold mi mtab
  by_cases h0 : M < 40
  · rw [app _ _ _ (by omega)]
    exact in_WLa0 (List.mem_map.mpr ⟨_, key _ _ (by omega), rfl⟩)
  rw [app2 _ _ _ (by omega), e0]
  by_cases h1 : M - 40 < 40
  · rw [app _ _ _ (by omega)]
    exact in_WLa1 (List.mem_map.mpr ⟨_, key _ _ (by omega), rfl⟩)
  rw [app2 _ _ _ (by omega), e1]
  by_cases h2 : M - 40 - 40 < 40
  · rw [app _ _ _ (by omega)]
    exact in_WLa2 (List.mem_map.mpr ⟨_, key _ _ (by omega), rfl⟩)
  rw [app2 _ _ _ (by omega), e2]
  by_cases h3 : M - 40 - 40 - 40 < 40
  · rw [app _ _ _ (by omega)]
    exact in_WLa3 (List.mem_map.mpr ⟨_, key _ _ (by omega), rfl⟩)
  rw [app2 _ _ _ (by omega), e3]
  by_cases h4 : M - 40 - 40 - 40 - 40 < 40
  · rw [app _ _ _ (by omega)]
    exact in_WLa4 (List.mem_map.mpr ⟨_, key _ _ (by omega), rfl⟩)
  rw [app2 _ _ _ (by omega), e4]
  by_cases h5 : M - 40 - 40 - 40 - 40 - 40 < 40
  · rw [app _ _ _ (by omega)]
    exact in_WLa5 (List.mem_map.mpr ⟨_, key _ _ (by omega), rfl⟩)
  rw [app2 _ _ _ (by omega), e5]
  have e7 : mtA6 = mtA6.take 31 ++ mtA6.drop 31 := (List.take_append_drop 31 mtA6).symm
  have e8 : (mtA6.take 31).length = 31 := rfl
  rw [e7, app _ _ _ (by omega)]
  exact in_WLa6 (List.mem_map.mpr ⟨_, key _ _ (by omega), rfl⟩)
section CALL
variable {S : Type} {rd : S → Nat → Nat → Option Nat} {G : Gx} {p : Program} {l : Launch} {e : Env} {R : Room} {s : State} {m : MethodId} {args : Array Value} {below : List Frame} {meth : Method} {c : Code} {n0 nL : Nat} {Q : State → Prop}
variable {cc : ByteArray} {h h' : Hp S} {pc : Nat} {ls : LV} {r as : List Value} {oc : Nat} {H : Heap} {locs : List Loc} {v : Option Value}
/-- behind a call -/
theorem w_back {cls : Array Slot} {st0 : List Value} (hn : n0 ≤ h.1) (hle : h.1 ≤ h'.1) (hS : va_S (AA G) s.heap H locs) (hL : LRel G cls nL ls) {a' : Array Value}
    (hr : va_Run p l e R s m args below meth c H locs (h.1 - n0) (szs (gL G) h.1 - szs (gL G) n0) (h'.1 - h.1) (szs (gL G) h'.1 - szs (gL G) h.1) (F0 m pc cls st0) (r.map (phv G)) (Qcc rd G v h' a') (AA G))
    (kk : Wst rd G p l e R s m args below meth c n0 nL Q h' (pc + 3) ls (v.toList ++ r)) : W p l e R s m args below meth c H locs (h.1 - n0) (szs (gL G) h.1 - szs (gL G) n0) Q (F0 m pc cls st0) := by
  intro T hT X
  obtain ⟨v', st₀, t, T', L, h0, X', hL', e1, e2, ⟨hv, hR', hz, hk⟩, st⟩ := hr T hT X
  cases hv
  rw [h0] at hz hk
  have hS1 : va_S (AA G) s.heap t.heap (locs ++ L) := ⟨Nat.le_trans hS.1 hz, fun q h1 h2 => by rw [hk q (Nat.lt_of_lt_of_le h1 hS.1) h2]; exact hS.2.1 q h1 h2, fun q hq => by
    rcases List.mem_append.mp hq with z | z
    · exact hS.2.2 q z
    · exact hL' q z⟩
  have k1 := kk (by omega) t.heap (locs ++ L) cls hR' hS1 hL
  have m1 := szs_le (gL G) hn
  have m2 := szs_le (gL G) hle
  have k2 := W.cs (cells := h.1 - n0 + (h'.1 - h.1)) (slots := szs (gL G) h.1 - szs (gL G) n0 + (szs (gL G) h'.1 - szs (gL G) h.1)) (by omega) (by omega) k1
  obtain ⟨t2, a1, b1⟩ := k2 T' e1 X'
  refine ⟨t2, st t2 ?_, b1⟩
  have e3 : (v.map (phv G)).toList ++ r.map (phv G) = (v.toList ++ r).map (phv G) := by
    cases v <;> rfl
  show Steps p.tables e below (T'.setTop (F0 m (pc + 3) cls ((v.map (phv G)).toList ++ r.map (phv G)))) t2
  rw [e3]
  exact a1
/-- what a call asks of tables and room -/
def CallOK (M' : Nat) (R : Room) : Prop := (mi M').2.2.2.2.2.2.1 + 1 ≤ R.frames ∧ 8 + ((mi M').2.2.2.1 + 11) + (mi M').2.2.2.2.2.2.2 ≤ R.locals ∧ M' < 271 ∧ chkN M' = true ∧ (mi M').1 ≠ 15
theorem chkN_at {M : Nat} (hq : (mi M).1 ≠ 15) (h : chkN M = true) : plainName (yM M).cls = true ∧ (yM M).cls ≠ "java/lang/invoke/MethodHandle" ∧ (yM M).cls ≠ "java/lang/invoke/VarHandle" ∧ (yM M).cls = own (mi M).1 ∧ (yM M).cls ∈ iniL ∧ (parseMethodDescriptor (yM M).desc).map (fun d => d.parameters.length) = some ((mi M).2.2.2.2.2.1 - (bif isSt M statM then 0 else 1)) := by
  unfold chkN at h
  simp only [Bool.or_eq_true, Bool.and_eq_true, decide_eq_true_eq] at h
  rcases h with h | h
  · exact absurd (nbeq h) hq
  · exact ⟨h.1, h.2.1, h.2.2.1, h.2.2.2.1, h.2.2.2.2.1, h.2.2.2.2.2⟩
theorem ini_in {c : String} (h : c ∈ iniL) : Cond.initialized c ∈ WL := in_WLg (List.mem_map.mpr ⟨c, h, rfl⟩)
theorem w_pre {as : List Value} (hK : KU G s) (hS : va_S (AA G) s.heap H locs) (hR : RelH rd G h H) (hsz : H.size + 5 = gB G + h.1) : ∀ U : State, U.heap = H → s.WarmedH U.vm → Pcc rd G as h (as.map (phv G)).toArray U :=
  fun U hU hW => ⟨rfl, hK.enter hS hU hW, by rw [hU]; exact hR, by rw [hU]; exact hsz⟩
/-- invokevirtual -/
theorem w_virt (hx : p.tables.exec = Jvm.exec) (hb : c.code = cc) (hml : c.maxLocals = nL) (hts : ∀ w ∈ WL, w.before args s = true) (hown : s.vm.findClass (own oc) = some m.cls) (hK : KU G s) (hs : s.heap.size + 5 = gB G + n0) (h5 : 5 ≤ n0) {M' ix b : Nat} (hf : (oc, ix, M', 0) ∈ ctab) (hv0 : M' ∈ virtM) (hst : isSt M' statM = false) (hok : CallOK M' R) (hna : (mi M').2.2.2.2.2.1 = (Value.ref b :: as).length) (hbs : (shT (gL G) b).1 = 4 + (mi M').1) (hbl : b < h.1) (hb13 : (mi M').1 < 13) (hcs : csum r ≤ 8)
    (hle : h.1 ≤ h'.1) (hcl : h'.1 - n0 ≤ R.cells) (hsl : szs (gL G) h'.1 - szs (gL G) n0 ≤ R.slots) (hM : MetC rd G l M' (.ref b :: as) h v h') (hd : decode cc pc = .ok (.invokevirtual ix, 3)) (kk : Wst rd G p l e R s m args below meth c n0 nL Q h' (pc + 3) ls (v.toList ++ r)) :
    Wst rd G p l e R s m args below meth c n0 nL Q h pc ls (as.reverse ++ .ref b :: r) := by
  intro hn H locs cls hR hS hL
  refine W_size (fun hle' => ?_)
  have hsz := size_of hs h5 hn hR hS hle'
  obtain ⟨o1, o2, o3, o4, o5⟩ := hok
  obtain ⟨g1, g2, g3, g4, g5, g6⟩ := chkN_at o5 o4
  have m1 := szs_le (gL G) hn
  have m2 := szs_le (gL G) hle
  have w1 : mlW (oc, ix, M', 0) ∈ WL := in_WLc (List.mem_map.mpr ⟨_, List.mem_filter.mpr ⟨hf, rfl⟩, rfl⟩)
  have w2 : Cond.instanceMethod (yM M') ∈ WL := in_WLd (List.mem_flatMap.mpr ⟨M', hv0, List.mem_cons_self⟩)
  have w3 : Cond.selects (yM M').cls (yM M') (yM M') ∈ WL := in_WLd (List.mem_flatMap.mpr ⟨M', hv0, List.mem_cons_of_mem _ List.mem_cons_self⟩)
  have hG : GoodIn WL (wsV (own oc) ix (yM M').cls (yM M') (codeW (mi M') :: WL)) := goodIn_W (fun w hw => by
    unfold wsV at hw
    rcases List.mem_append.mp hw with z | z
    · simp only [List.mem_cons, List.not_mem_nil, or_false] at z
      rcases z with rfl | rfl | rfl | rfl
      · exact w1
      · exact w2
      · exact w3
      · exact ini_in g5
    · rcases List.mem_cons.mp z with rfl | z
      · exact mt_take M' o3
      · exact z)
  have hb5 := sh5 (L := gL G) (a := b) (by rw [hbs]; omega)
  have hrecv : ∃ cellB : Cell, H[phi G b]? = some cellB ∧ cellB.vm.isStatics = false ∧ s.vm.findClass (yM M').cls = some cellB.cls := by
    have hw := wld_get (rd := rd) (G := G) (h := h) hb5 hbl
    rw [cellE_4 hbs] at hw
    have := va_recv hK.1 hR.2.2.1 (clT_at hb13) hw
    rw [g4, show own (mi M').1 = (clT (mi M').1).1 from by
      have : ∀ c, c < 13 → own c = (clT c).1 := by decide +kernel
      exact this _ hb13]
    exact this
  have hrun := va_runV (As := as.map (phv G)) (rest := r.map (phv G)) (g := F0 m pc cls ((as.reverse ++ .ref b :: r).map (phv G))) (b := phi G b) (H := H) (locs := locs) (below := below) (e := e) (meth := meth) (cells := h.1 - n0) (slots := szs (gL G) h.1 - szs (gL G) n0) ⟨hx, hb, hml, hown, hts⟩ hM
    (cwV (as.length) hts hG rfl rfl rfl ⟨rfl, g2, g3, by rw [g6, hna, hst]; simp⟩ ⟨o1, o2⟩) ⟨Pcc.blind, hrecv, w_pre (as := .ref b :: as) hK hS hR hsz⟩ rfl (by simp) hL.1 (by simp [phv]) (by show 2 * 0 + _ ≤ 8; rw [csum_eq]; omega) hd ⟨by show h.1 - n0 + (h'.1 - h.1) ≤ R.cells; omega, by show szs (gL G) h.1 - szs (gL G) n0 + (szs (gL G) h'.1 - szs (gL G) h.1) ≤ R.slots; omega⟩
  exact w_back hn hle hS hL hrun kk
/-- invokestatic -/
theorem w_stat (hx : p.tables.exec = Jvm.exec) (hb : c.code = cc) (hml : c.maxLocals = nL) (hts : ∀ w ∈ WL, w.before args s = true) (hown : s.vm.findClass (own oc) = some m.cls) (hK : KU G s) (hs : s.heap.size + 5 = gB G + n0) (h5 : 5 ≤ n0) {M' ix : Nat} (hf : (oc, ix, M', 1) ∈ ctab ∨ (oc, ix, M', 3) ∈ ctab) (hv0 : M' ∈ statM) (hst : isSt M' statM = true) (hok : CallOK M' R) (hna : (mi M').2.2.2.2.2.1 = as.length) (hcs : csum r ≤ 8)
    (hle : h.1 ≤ h'.1) (hcl : h'.1 - n0 ≤ R.cells) (hsl : szs (gL G) h'.1 - szs (gL G) n0 ≤ R.slots) (hM : MetC rd G l M' as h v h') (hd : decode cc pc = .ok (.invokestatic ix, 3)) (kk : Wst rd G p l e R s m args below meth c n0 nL Q h' (pc + 3) ls (v.toList ++ r)) :
    Wst rd G p l e R s m args below meth c n0 nL Q h pc ls (as.reverse ++ r) := by
  intro hn H locs cls hR hS hL
  refine W_size (fun hle' => ?_)
  have hsz := size_of hs h5 hn hR hS hle'
  obtain ⟨o1, o2, o3, o4, o5⟩ := hok
  obtain ⟨g1, g2, g3, g4, g5, g6⟩ := chkN_at o5 o4
  have m1 := szs_le (gL G) hn
  have m2 := szs_le (gL G) hle
  have w2 : Cond.static (yM M') ∈ WL := in_WLe (List.mem_map.mpr ⟨M', hv0, rfl⟩)
  have hroom : h.1 - n0 + (h'.1 - h.1) ≤ R.cells ∧ szs (gL G) h.1 - szs (gL G) n0 + (szs (gL G) h'.1 - szs (gL G) h.1) ≤ R.slots := ⟨by omega, by omega⟩
  have hlen : (parseMethodDescriptor (yM M').desc).map (fun d => d.parameters.length) = some as.length := by rw [g6, hna, hst]; simp
  rcases hf with hf | hf
  · have w1 : mlW (oc, ix, M', 1) ∈ WL := in_WLc (List.mem_map.mpr ⟨_, List.mem_filter.mpr ⟨hf, rfl⟩, rfl⟩)
    have hG : GoodIn WL (va_wsS (own oc) ix (yM M') (codeW (mi M') :: WL)) := goodIn_W (fun w hw => by
      unfold va_wsS at hw
      rcases List.mem_append.mp hw with z | z
      · simp only [List.mem_cons, List.not_mem_nil, or_false] at z
        rcases z with rfl | rfl | rfl
        · exact w1
        · exact w2
        · exact ini_in g5
      · rcases List.mem_cons.mp z with rfl | z
        · exact mt_take M' o3
        · exact z)
    have hrun := va_runS (As := as.map (phv G)) (rest := r.map (phv G)) (g := F0 m pc cls ((as.reverse ++ r).map (phv G))) (H := H) (locs := locs) (below := below) (e := e) (meth := meth) (cells := h.1 - n0) (slots := szs (gL G) h.1 - szs (gL G) n0) ⟨hx, hb, hml, hown, hts⟩ hM
      (va_cwS (as.length) hts hG rfl rfl rfl ⟨g2, g3, hlen⟩ ⟨o1, o2⟩) ⟨Pcc.blind, w_pre hK hS hR hsz⟩ rfl (by simp) hL.1 (by simp) (by show 2 * 0 + _ ≤ 8; rw [csum_eq]; omega) hd hroom
    exact w_back hn hle hS hL hrun kk
  · have hnest : va_Nw (.methodLinkNest (own oc) ix (yM M') "DryLand") s := hK.2.1 (oc, ix, M', 3) (List.mem_filter.mpr ⟨hf, rfl⟩)
    have hG : GoodIn WL (codeW (mi M') :: WL) := goodIn_W (fun w z => by
      rcases List.mem_cons.mp z with rfl | z
      · exact mt_take M' o3
      · exact z)
    have hrun := va_runSN (As := as.map (phv G)) (rest := r.map (phv G)) (g := F0 m pc cls ((as.reverse ++ r).map (phv G))) (H := H) (locs := locs) (below := below) (e := e) (meth := meth) (cells := h.1 - n0) (slots := szs (gL G) h.1 - szs (gL G) n0) ⟨hx, hb, hml, hown, hts⟩ hM
      ⟨va_cnB (as.length) hts hG rfl rfl rfl hnest (hts _ (ini_in g5)) ⟨g2, g3, hlen⟩ ⟨o1, o2⟩, hts _ w2, trivial⟩ ⟨Pcc.blind, w_pre hK hS hR hsz⟩ rfl (by simp) hL.1 (by simp) (by show 2 * 0 + _ ≤ 8; rw [csum_eq]; omega) hd hroom
    exact w_back hn hle hS hL hrun kk
/-- invokespecial of a constructor -/
theorem w_spec (hx : p.tables.exec = Jvm.exec) (hb : c.code = cc) (hml : c.maxLocals = nL) (hts : ∀ w ∈ WL, w.before args s = true) (hown : s.vm.findClass (own oc) = some m.cls) (hK : KU G s) (hs : s.heap.size + 5 = gB G + n0) (h5 : 5 ≤ n0) {M' ix b : Nat} (hf : (oc, ix, M', 2) ∈ ctab ∨ (oc, ix, M', 4) ∈ ctab) (hv0 : M' ∈ specM) (hst : isSt M' statM = false) (hin : (yM M').name = "<init>") (hrt : (mi M').2.2.2.2.1 = none) (hok : CallOK M' R) (hna : (mi M').2.2.2.2.2.1 = (Value.ref b :: as).length) (hcs : csum r ≤ 8)
    (hle : h.1 ≤ h'.1) (hcl : h'.1 - n0 ≤ R.cells) (hsl : szs (gL G) h'.1 - szs (gL G) n0 ≤ R.slots) (hM : MetC rd G l M' (.ref b :: as) h v h') (hd : decode cc pc = .ok (.invokespecial ix, 3)) (kk : Wst rd G p l e R s m args below meth c n0 nL Q h' (pc + 3) ls (v.toList ++ r)) :
    Wst rd G p l e R s m args below meth c n0 nL Q h pc ls (as.reverse ++ .ref b :: r) := by
  intro hn H locs cls hR hS hL
  refine W_size (fun hle' => ?_)
  have hsz := size_of hs h5 hn hR hS hle'
  obtain ⟨o1, o2, o3, o4, o5⟩ := hok
  obtain ⟨g1, g2, g3, g4, g5, g6⟩ := chkN_at o5 o4
  have m1 := szs_le (gL G) hn
  have m2 := szs_le (gL G) hle
  have w2 : Cond.instanceMethod (yM M') ∈ WL := in_WLf (List.mem_map.mpr ⟨M', hv0, rfl⟩)
  have hroom : h.1 - n0 + (h'.1 - h.1) ≤ R.cells ∧ szs (gL G) h.1 - szs (gL G) n0 + (szs (gL G) h'.1 - szs (gL G) h.1) ≤ R.slots := ⟨by omega, by omega⟩
  have hlen : (parseMethodDescriptor (yM M').desc).map (fun d => d.parameters.length) = some as.length := by rw [g6, hna, hst]; simp
  have hcw : codeW (mi M') :: WL = Cond.code (yM M') (mi M').2.2.1 (mi M').2.2.2.1 none :: WL := by
    have : codeW (mi M') = Cond.code (yM M') (mi M').2.2.1 (mi M').2.2.2.1 (mi M').2.2.2.2.1 := rfl
    rw [this, hrt]
  have hG : GoodIn WL (codeW (mi M') :: WL) := goodIn_W (fun w z => by
    rcases List.mem_cons.mp z with rfl | z
    · exact mt_take M' o3
    · exact z)
  rcases hf with hf | hf
  · have w1 : mlW (oc, ix, M', 2) ∈ WL := in_WLc (List.mem_map.mpr ⟨_, List.mem_filter.mpr ⟨hf, rfl⟩, rfl⟩)
    have hrun := va_runI (As := as.map (phv G)) (rest := r.map (phv G)) (g := F0 m pc cls ((as.reverse ++ .ref b :: r).map (phv G))) (b := phi G b) (H := H) (locs := locs) (below := below) (e := e) (meth := meth) (cells := h.1 - n0) (slots := szs (gL G) h.1 - szs (gL G) n0) ⟨hx, hb, hml, hown, hts⟩ hM
      (cwI (as.length) hts hG hcw rfl rfl (hts _ (ini_in g5)) (hts _ w1) (hts _ w2) hin ⟨g2, g3, hlen⟩ ⟨o1, o2⟩) ⟨Pcc.blind, w_pre (as := .ref b :: as) hK hS hR hsz⟩ rfl (by simp) hL.1 (by simp [phv]) (by show 2 * 0 + _ ≤ 8; rw [csum_eq]; omega) hd hroom
    exact w_back hn hle hS hL hrun kk
  · have hnest : va_Nw (.methodLinkNest (own oc) ix (yM M') "DryLand") s := hK.2.1 (oc, ix, M', 4) (List.mem_filter.mpr ⟨hf, rfl⟩)
    have hrun := va_runIN (As := as.map (phv G)) (rest := r.map (phv G)) (g := F0 m pc cls ((as.reverse ++ .ref b :: r).map (phv G))) (b := phi G b) (H := H) (locs := locs) (below := below) (e := e) (meth := meth) (cells := h.1 - n0) (slots := szs (gL G) h.1 - szs (gL G) n0) ⟨hx, hb, hml, hown, hts⟩ hM
      ⟨va_cnB (as.length) hts hG hcw rfl rfl hnest (hts _ (ini_in g5)) ⟨g2, g3, hlen⟩ ⟨o1, o2⟩, hin, hts _ w2⟩ ⟨Pcc.blind, w_pre (as := .ref b :: as) hK hS hR hsz⟩ rfl (by simp) hL.1 (by simp [phv]) (by show 2 * 0 + _ ≤ 8; rw [csum_eq]; omega) hd hroom
    exact w_back hn hle hS hL hrun kk
end CALL
