section STEP
variable {S : Type} {rd : S → Nat → Nat → Option Nat} {wr : S → Nat → Nat → Nat → Option S} {G : Gx} {p : Program} {l : Launch} {e : Env} {R : Room} {s : State} {m : MethodId} {args : Array Value} {below : List Frame} {meth : Method} {c : Code} {n0 M : Nat} {Q : State → Prop}
set_option maxHeartbeats 8000000 in
set_option maxRecDepth 100000 in
theorem step_sound (hwr : ∀ (r : S) (a i v : Nat) (r' : S), wr r a i v = some r' → ∀ b j, rd r' b j = if b = a ∧ j = i then some v else rd r b j) (C : Cx G p R s m args meth c n0 M) {n : Nat} {v : Option Value} {h1 : Hp S} (hcl : h1.1 - n0 ≤ R.cells) (hsl : szs (gL G) h1.1 - szs (gL G) n0 ≤ R.slots)
    (kont : ∀ (pc : Nat) (ls : LV) (st : List Value) (h : Hp S), run cdT (gL G) (gX G) (gT G) rd wr n M pc ls st h = some (v, h1) → h.1 ≤ h1.1 ∧ Wst rd G p l e R s m args below meth c n0 (mi M).2.2.2.1 Q h pc ls st)
    (cont : ∀ (M' : Nat) (as : List Value) (h : Hp S) (v' : Option Value) (h' : Hp S), CallGood M' as → run cdT (gL G) (gX G) (gT G) rd wr n M' 0 (entm M' as) [] h = some (v', h') → h.1 ≤ h'.1 ∧ MetC rd G l M' as h v' h')
    (hend : ∀ (pc : Nat) (ls : LV) (ai : AI), (pc, ai) ∈ cdT M → retOK ai v → Wst rd G p l e R s m args below meth c n0 (mi M).2.2.2.1 Q h1 pc ls v.toList)
    {pc : Nat} {ls : LV} {st : List Value} {h : Hp S} {ai : AI} (hmem : (pc, ai) ∈ cdT M) (hrun : stp (gL G) (gX G) (gT G) rd wr none (fun pc ls st h => run cdT (gL G) (gX G) (gT G) rd wr n M pc ls st h) (fun M' as h f => (run cdT (gL G) (gX G) (gT G) rd wr n M' 0 (entm M' as) [] h).bind (fun q => f q.1 q.2)) (fun v h => some (v, h)) ai pc ls st h = some (v, h1)) :
    h.1 ≤ h1.1 ∧ Wst rd G p l e R s m args below meth c n0 (mi M).2.2.2.1 Q h pc ls st := by
  obtain ⟨hx, hb, hml, hown, hts, hF, hLc, hini, hK, hs, h5, hck⟩ := C
  have hq := hck _ hmem
  unfold chkQ at hq
  simp only [Bool.and_eq_true, decide_eq_true_eq] at hq
  obtain ⟨hd, hchk⟩ := hq
  have callM : ∀ (M' : Nat) (as : List Value) (h : Hp S) (g : Option Value × Hp S → Option (Option Value × Hp S)), (run cdT (gL G) (gX G) (gT G) rd wr n M' 0 (entm M' as) [] h).bind g = some (v, h1) → ∃ z, run cdT (gL G) (gX G) (gT G) rd wr n M' 0 (entm M' as) [] h = some z ∧ g z = some (v, h1) := by
    intro M' as h g hq
    exact Option.bind_eq_some_iff.mp hq
  have okC : ∀ {M' na rk mx : Nat}, chkC (mi M).2.2.2.2.2.2.1 (mi M).2.2.2.2.2.2.2 M' na rk mx = true → CallOK M' R ∧ (mi M').2.2.2.2.2.1 = na ∧ (mi M').2.2.2.1 = mx ∧ M' < 271 ∧ (mi M').1 ≠ 15 := by
    intro M' na rk mx hq
    unfold chkC at hq
    simp only [Bool.and_eq_true, Bool.not_eq_true'] at hq
    obtain ⟨a1, a2, a3, a4, a5, a6, a7⟩ := hq
    have b4 := Nat.le_of_ble_eq_true a4
    have b5 := Nat.le_of_ble_eq_true a5
    have b6 : M' < 271 := Nat.blt_eq.mp a6
    have b7 : (mi M').1 ≠ 15 := fun z => by rw [z] at a7; cases a7
    exact ⟨⟨by omega, by omega, b6, ckN_all M' b6, b7⟩, nbeq a2, nbeq a1, b6, b7⟩
  have ct : ∀ e, e ∈ ctab → chkE e = true := fun e he => List.all_eq_true.mp ctab_ok e he
  obtain ⟨i, len, a, sw⟩ := ai
  cases i
  case iconst n' =>
    have hchk : (Nat.beq len 1 && decide (Int32.ofInt n' = kv sw)) = true := hchk
    simp only [Bool.and_eq_true, decide_eq_true_eq] at hchk
    obtain ⟨e1, e2⟩ := hchk
    obtain rfl := nbeq e1
    obtain ⟨k1, k2⟩ := kont _ _ _ _ hrun
    exact ⟨k1, w_iconst hx hb hd e2 k2⟩
  case bipush n' =>
    have hchk : (Nat.beq len 2 && decide ((Int8.ofInt n').toInt32 = kv sw)) = true := hchk
    simp only [Bool.and_eq_true, decide_eq_true_eq] at hchk
    obtain ⟨e1, e2⟩ := hchk
    obtain rfl := nbeq e1
    obtain ⟨k1, k2⟩ := kont _ _ _ _ hrun
    exact ⟨k1, w_bipush hx hb hd e2 k2⟩
  case sipush n' =>
    have hchk : (Nat.beq len 3 && decide ((Int16.ofInt n').toInt32 = kv sw)) = true := hchk
    simp only [Bool.and_eq_true, decide_eq_true_eq] at hchk
    obtain ⟨e1, e2⟩ := hchk
    obtain rfl := nbeq e1
    obtain ⟨k1, k2⟩ := kont _ _ _ _ hrun
    exact ⟨k1, w_sipush hx hb hd e2 k2⟩
  case ldc_w ix =>
    have hchk : (Nat.beq len 3 && inL ltab (mi M).1 ix (kv sw)) = true := hchk
    simp only [Bool.and_eq_true, decide_eq_true_eq] at hchk
    obtain ⟨e1, e2⟩ := hchk
    obtain rfl := nbeq e1
    obtain ⟨k1, k2⟩ := kont _ _ _ _ hrun
    exact ⟨k1, w_ldcw hx hb hown (hts _ (in_WLl (List.mem_append_left _ (List.mem_map.mpr ⟨_, inL_mem e2, rfl⟩)))) hd k2⟩
  case lconst j =>
    have hchk : (Nat.beq len 1 && Nat.beq (ax a 0) j.val) = true := hchk
    simp only [Bool.and_eq_true, decide_eq_true_eq] at hchk
    obtain ⟨e1, e2⟩ := hchk
    obtain rfl := nbeq e1
    obtain ⟨k1, k2⟩ := kont _ _ _ _ hrun
    refine ⟨k1, w_lconst hx hb hd ?_ k2⟩
    rw [nbeq e2]
    match j with
    | ⟨0, _⟩ => rfl
    | ⟨1, _⟩ => rfl
  case ldc2_w ix =>
    have hchk : (Nat.beq len 3 && in2 jtab (mi M).1 ix) = true := hchk
    simp only [Bool.and_eq_true, decide_eq_true_eq] at hchk
    obtain ⟨e1, e2⟩ := hchk
    obtain rfl := nbeq e1
    obtain ⟨k1, k2⟩ := kont _ _ _ _ hrun
    exact ⟨k1, w_ldc2 hx hb hown (hts _ (in_WLl (List.mem_append_right _ (List.mem_map.mpr ⟨_, in2_mem e2, rfl⟩)))) hd k2⟩
  case aconst_null =>
    have hchk : (Nat.beq len 1) = true := hchk
    obtain rfl := nbeq hchk
    obtain ⟨k1, k2⟩ := kont _ _ _ _ hrun
    exact ⟨k1, w_null hx hb hd k2⟩
  case iload j =>
    have hchk : (Nat.beq len 2 && Nat.beq (ax a 0) j) = true := hchk
    simp only [Bool.and_eq_true, decide_eq_true_eq] at hchk
    obtain ⟨e1, e2⟩ := hchk
    obtain rfl := nbeq e1
    obtain ⟨x, hg, hrun⟩ := rI_s hrun
    obtain ⟨k1, k2⟩ := kont _ _ _ _ hrun
    exact ⟨k1, w_iload hx hb hd (by rw [← nbeq e2]; exact hg) k2⟩
  case iload_n j =>
    have hchk : (Nat.beq len 1 && Nat.beq (ax a 0) j.val) = true := hchk
    simp only [Bool.and_eq_true, decide_eq_true_eq] at hchk
    obtain ⟨e1, e2⟩ := hchk
    obtain rfl := nbeq e1
    obtain ⟨x, hg, hrun⟩ := rI_s hrun
    obtain ⟨k1, k2⟩ := kont _ _ _ _ hrun
    exact ⟨k1, w_iload_n hx hb hd (by rw [← nbeq e2]; exact hg) k2⟩
  case lload j =>
    have hchk : (Nat.beq len 2 && Nat.beq (ax a 0) j) = true := hchk
    simp only [Bool.and_eq_true, decide_eq_true_eq] at hchk
    obtain ⟨e1, e2⟩ := hchk
    obtain rfl := nbeq e1
    obtain ⟨x, hg, hrun⟩ := rJ_s hrun
    obtain ⟨k1, k2⟩ := kont _ _ _ _ hrun
    exact ⟨k1, w_lload hx hb hd (by rw [← nbeq e2]; exact hg) k2⟩
  case lload_n j =>
    have hchk : (Nat.beq len 1 && Nat.beq (ax a 0) j.val) = true := hchk
    simp only [Bool.and_eq_true, decide_eq_true_eq] at hchk
    obtain ⟨e1, e2⟩ := hchk
    obtain rfl := nbeq e1
    obtain ⟨x, hg, hrun⟩ := rJ_s hrun
    obtain ⟨k1, k2⟩ := kont _ _ _ _ hrun
    exact ⟨k1, w_lload_n hx hb hd (by rw [← nbeq e2]; exact hg) k2⟩
  case aload j =>
    have hchk : (Nat.beq len 2 && Nat.beq (ax a 0) j) = true := hchk
    simp only [Bool.and_eq_true, decide_eq_true_eq] at hchk
    obtain ⟨e1, e2⟩ := hchk
    obtain rfl := nbeq e1
    rcases rO_s hrun with ⟨hg, hrun⟩ | ⟨x, hg, hrun⟩
    · obtain ⟨k1, k2⟩ := kont _ _ _ _ hrun
      exact ⟨k1, w_aloadN hx hb hd (by rw [← nbeq e2]; exact hg) k2⟩
    · obtain ⟨k1, k2⟩ := kont _ _ _ _ hrun
      exact ⟨k1, w_aload hx hb hd (by rw [← nbeq e2]; exact hg) k2⟩
  case aload_n j =>
    have hchk : (Nat.beq len 1 && Nat.beq (ax a 0) j.val) = true := hchk
    simp only [Bool.and_eq_true, decide_eq_true_eq] at hchk
    obtain ⟨e1, e2⟩ := hchk
    obtain rfl := nbeq e1
    rcases rO_s hrun with ⟨hg, hrun⟩ | ⟨x, hg, hrun⟩
    · obtain ⟨k1, k2⟩ := kont _ _ _ _ hrun
      exact ⟨k1, w_aload_nN hx hb hd (by rw [← nbeq e2]; exact hg) k2⟩
    · obtain ⟨k1, k2⟩ := kont _ _ _ _ hrun
      exact ⟨k1, w_aload_n hx hb hd (by rw [← nbeq e2]; exact hg) k2⟩
  case istore j =>
    have hchk : (Nat.beq len 2 && (Nat.beq (ax a 0) j && Nat.blt j (mi M).2.2.2.1)) = true := hchk
    simp only [Bool.and_eq_true, decide_eq_true_eq] at hchk
    obtain ⟨e1, e2, e3⟩ := hchk
    obtain rfl := nbeq e1
    obtain ⟨x, r, rfl, hrun⟩ := pI_s hrun
    obtain ⟨hm, hrun⟩ := bif_s hrun
    obtain ⟨k1, k2⟩ := kont _ _ _ _ hrun
    exact ⟨k1, w_istore hx hb hd (Nat.blt_eq.mp e3) (by rw [← nbeq e2]; exact hm) (by rw [← nbeq e2]; exact k2)⟩
  case istore_n j =>
    have hchk : (Nat.beq len 1 && (Nat.beq (ax a 0) j.val && Nat.blt j.val (mi M).2.2.2.1)) = true := hchk
    simp only [Bool.and_eq_true, decide_eq_true_eq] at hchk
    obtain ⟨e1, e2, e3⟩ := hchk
    obtain rfl := nbeq e1
    obtain ⟨x, r, rfl, hrun⟩ := pI_s hrun
    obtain ⟨hm, hrun⟩ := bif_s hrun
    obtain ⟨k1, k2⟩ := kont _ _ _ _ hrun
    exact ⟨k1, w_istore_n hx hb hd (Nat.blt_eq.mp e3) (by rw [← nbeq e2]; exact hm) (by rw [← nbeq e2]; exact k2)⟩
  case lstore j =>
    have hchk : (Nat.beq len 2 && (Nat.beq (ax a 0) j && Nat.blt (j + 1) (mi M).2.2.2.1)) = true := hchk
    simp only [Bool.and_eq_true, decide_eq_true_eq] at hchk
    obtain ⟨e1, e2, e3⟩ := hchk
    obtain rfl := nbeq e1
    obtain ⟨x, r, rfl, hrun⟩ := pJ_s hrun
    obtain ⟨hm, hrun⟩ := bif_s hrun
    obtain ⟨k1, k2⟩ := kont _ _ _ _ hrun
    exact ⟨k1, w_lstore hx hb hd (Nat.blt_eq.mp e3) (by rw [← nbeq e2]; exact hm) (by rw [← nbeq e2]; exact k2)⟩
  case lstore_n j =>
    have hchk : (Nat.beq len 1 && (Nat.beq (ax a 0) j.val && Nat.blt (j.val + 1) (mi M).2.2.2.1)) = true := hchk
    simp only [Bool.and_eq_true, decide_eq_true_eq] at hchk
    obtain ⟨e1, e2, e3⟩ := hchk
    obtain rfl := nbeq e1
    obtain ⟨x, r, rfl, hrun⟩ := pJ_s hrun
    obtain ⟨hm, hrun⟩ := bif_s hrun
    obtain ⟨k1, k2⟩ := kont _ _ _ _ hrun
    exact ⟨k1, w_lstore_n hx hb hd (Nat.blt_eq.mp e3) (by rw [← nbeq e2]; exact hm) (by rw [← nbeq e2]; exact k2)⟩
  case astore j =>
    have hchk : (Nat.beq len 2 && (Nat.beq (ax a 0) j && Nat.blt j (mi M).2.2.2.1)) = true := hchk
    simp only [Bool.and_eq_true, decide_eq_true_eq] at hchk
    obtain ⟨e1, e2, e3⟩ := hchk
    obtain rfl := nbeq e1
    rcases pO_s hrun with ⟨r, rfl, hrun⟩ | ⟨x, r, rfl, hrun⟩
    · obtain ⟨hm, hrun⟩ := bif_s hrun
      obtain ⟨k1, k2⟩ := kont _ _ _ _ hrun
      exact ⟨k1, w_astoreN hx hb hd (Nat.blt_eq.mp e3) (by rw [← nbeq e2]; exact hm) (by rw [← nbeq e2]; exact k2)⟩
    · obtain ⟨hm, hrun⟩ := bif_s hrun
      obtain ⟨k1, k2⟩ := kont _ _ _ _ hrun
      exact ⟨k1, w_astore hx hb hd (Nat.blt_eq.mp e3) (by rw [← nbeq e2]; exact hm) (by rw [← nbeq e2]; exact k2)⟩
  case astore_n j =>
    have hchk : (Nat.beq len 1 && (Nat.beq (ax a 0) j.val && Nat.blt j.val (mi M).2.2.2.1)) = true := hchk
    simp only [Bool.and_eq_true, decide_eq_true_eq] at hchk
    obtain ⟨e1, e2, e3⟩ := hchk
    obtain rfl := nbeq e1
    rcases pO_s hrun with ⟨r, rfl, hrun⟩ | ⟨x, r, rfl, hrun⟩
    · obtain ⟨hm, hrun⟩ := bif_s hrun
      obtain ⟨k1, k2⟩ := kont _ _ _ _ hrun
      exact ⟨k1, w_astore_nN hx hb hd (Nat.blt_eq.mp e3) (by rw [← nbeq e2]; exact hm) (by rw [← nbeq e2]; exact k2)⟩
    · obtain ⟨hm, hrun⟩ := bif_s hrun
      obtain ⟨k1, k2⟩ := kont _ _ _ _ hrun
      exact ⟨k1, w_astore_n hx hb hd (Nat.blt_eq.mp e3) (by rw [← nbeq e2]; exact hm) (by rw [← nbeq e2]; exact k2)⟩
  case iinc j n' =>
    have hchk : (Nat.beq len 3 && (Nat.beq (ax a 0) j && (Nat.blt j (mi M).2.2.2.1 && decide (Int32.ofInt n' = kv sw)))) = true := hchk
    simp only [Bool.and_eq_true, decide_eq_true_eq] at hchk
    obtain ⟨e1, e2, e3, e4⟩ := hchk
    obtain rfl := nbeq e1
    obtain ⟨x, hg, hrun⟩ := rI_s hrun
    obtain ⟨hm, hrun⟩ := bif_s hrun
    obtain ⟨k1, k2⟩ := kont _ _ _ _ hrun
    exact ⟨k1, w_iinc hx hb hd (Nat.blt_eq.mp e3) (by rw [← nbeq e2]; exact hm) (by rw [← nbeq e2]; exact hg) (by rw [e4]) (by rw [← nbeq e2]; exact k2)⟩
  case iadd =>
    have hchk : (Nat.beq len 1) = true := hchk
    obtain rfl := nbeq hchk
    obtain ⟨x, y, r, rfl, hrun⟩ := pII_s hrun
    obtain ⟨k1, k2⟩ := kont _ _ _ _ hrun
    exact ⟨k1, w_iadd hx hb hd k2⟩
  case isub =>
    have hchk : (Nat.beq len 1) = true := hchk
    obtain rfl := nbeq hchk
    obtain ⟨x, y, r, rfl, hrun⟩ := pII_s hrun
    obtain ⟨k1, k2⟩ := kont _ _ _ _ hrun
    exact ⟨k1, w_isub hx hb hd k2⟩
  case imul =>
    have hchk : (Nat.beq len 1) = true := hchk
    obtain rfl := nbeq hchk
    obtain ⟨x, y, r, rfl, hrun⟩ := pII_s hrun
    obtain ⟨k1, k2⟩ := kont _ _ _ _ hrun
    exact ⟨k1, w_imul hx hb hd k2⟩
  case iand =>
    have hchk : (Nat.beq len 1) = true := hchk
    obtain rfl := nbeq hchk
    obtain ⟨x, y, r, rfl, hrun⟩ := pII_s hrun
    obtain ⟨k1, k2⟩ := kont _ _ _ _ hrun
    exact ⟨k1, w_iand hx hb hd k2⟩
  case ior =>
    have hchk : (Nat.beq len 1) = true := hchk
    obtain rfl := nbeq hchk
    obtain ⟨x, y, r, rfl, hrun⟩ := pII_s hrun
    obtain ⟨k1, k2⟩ := kont _ _ _ _ hrun
    exact ⟨k1, w_ior hx hb hd k2⟩
  case ixor =>
    have hchk : (Nat.beq len 1) = true := hchk
    obtain rfl := nbeq hchk
    obtain ⟨x, y, r, rfl, hrun⟩ := pII_s hrun
    obtain ⟨k1, k2⟩ := kont _ _ _ _ hrun
    exact ⟨k1, w_ixor hx hb hd k2⟩
  case ishl =>
    have hchk : (Nat.beq len 1) = true := hchk
    obtain rfl := nbeq hchk
    obtain ⟨x, y, r, rfl, hrun⟩ := pII_s hrun
    obtain ⟨k1, k2⟩ := kont _ _ _ _ hrun
    exact ⟨k1, w_ishl hx hb hd k2⟩
  case ishr =>
    have hchk : (Nat.beq len 1) = true := hchk
    obtain rfl := nbeq hchk
    obtain ⟨x, y, r, rfl, hrun⟩ := pII_s hrun
    obtain ⟨k1, k2⟩ := kont _ _ _ _ hrun
    exact ⟨k1, w_ishr hx hb hd k2⟩
  case iushr =>
    have hchk : (Nat.beq len 1) = true := hchk
    obtain rfl := nbeq hchk
    obtain ⟨x, y, r, rfl, hrun⟩ := pII_s hrun
    obtain ⟨k1, k2⟩ := kont _ _ _ _ hrun
    exact ⟨k1, w_iushr hx hb hd k2⟩
  case idiv =>
    have hchk : (Nat.beq len 1) = true := hchk
    obtain rfl := nbeq hchk
    obtain ⟨x, y, r, rfl, hrun⟩ := pII_s hrun
    obtain ⟨hne, hrun⟩ := if_s hrun
    obtain ⟨k1, k2⟩ := kont _ _ _ _ hrun
    exact ⟨k1, w_idiv hx hb hd hne k2⟩
  case irem =>
    have hchk : (Nat.beq len 1) = true := hchk
    obtain rfl := nbeq hchk
    obtain ⟨x, y, r, rfl, hrun⟩ := pII_s hrun
    obtain ⟨hne, hrun⟩ := if_s hrun
    obtain ⟨k1, k2⟩ := kont _ _ _ _ hrun
    exact ⟨k1, w_irem hx hb hd hne k2⟩
  case lmul =>
    have hchk : (Nat.beq len 1) = true := hchk
    obtain rfl := nbeq hchk
    obtain ⟨x, y, r, rfl, hrun⟩ := pJJ_s hrun
    obtain ⟨k1, k2⟩ := kont _ _ _ _ hrun
    exact ⟨k1, w_lmul hx hb hd k2⟩
  case lsub =>
    have hchk : (Nat.beq len 1) = true := hchk
    obtain rfl := nbeq hchk
    obtain ⟨x, y, r, rfl, hrun⟩ := pJJ_s hrun
    obtain ⟨k1, k2⟩ := kont _ _ _ _ hrun
    exact ⟨k1, w_lsub hx hb hd k2⟩
  case lcmp =>
    have hchk : (Nat.beq len 1) = true := hchk
    obtain rfl := nbeq hchk
    obtain ⟨x, y, r, rfl, hrun⟩ := pJJ_s hrun
    obtain ⟨k1, k2⟩ := kont _ _ _ _ hrun
    exact ⟨k1, w_lcmp hx hb hd k2⟩
  case ldiv =>
    have hchk : (Nat.beq len 1) = true := hchk
    obtain rfl := nbeq hchk
    obtain ⟨x, y, r, rfl, hrun⟩ := pJJ_s hrun
    obtain ⟨hne, hrun⟩ := if_s hrun
    obtain ⟨k1, k2⟩ := kont _ _ _ _ hrun
    exact ⟨k1, w_ldiv hx hb hd hne k2⟩
  case lrem =>
    have hchk : (Nat.beq len 1) = true := hchk
    obtain rfl := nbeq hchk
    obtain ⟨x, y, r, rfl, hrun⟩ := pJJ_s hrun
    obtain ⟨hne, hrun⟩ := if_s hrun
    obtain ⟨k1, k2⟩ := kont _ _ _ _ hrun
    exact ⟨k1, w_lrem hx hb hd hne k2⟩
  case ineg =>
    have hchk : (Nat.beq len 1) = true := hchk
    obtain rfl := nbeq hchk
    obtain ⟨x, r, rfl, hrun⟩ := pI_s hrun
    obtain ⟨k1, k2⟩ := kont _ _ _ _ hrun
    exact ⟨k1, w_ineg hx hb hd k2⟩
  case i2l =>
    have hchk : (Nat.beq len 1) = true := hchk
    obtain rfl := nbeq hchk
    obtain ⟨x, r, rfl, hrun⟩ := pI_s hrun
    obtain ⟨k1, k2⟩ := kont _ _ _ _ hrun
    exact ⟨k1, w_i2l hx hb hd k2⟩
  case i2b =>
    have hchk : (Nat.beq len 1) = true := hchk
    obtain rfl := nbeq hchk
    obtain ⟨x, r, rfl, hrun⟩ := pI_s hrun
    obtain ⟨k1, k2⟩ := kont _ _ _ _ hrun
    exact ⟨k1, w_i2b hx hb hd k2⟩
  case i2s =>
    have hchk : (Nat.beq len 1) = true := hchk
    obtain rfl := nbeq hchk
    obtain ⟨x, r, rfl, hrun⟩ := pI_s hrun
    obtain ⟨k1, k2⟩ := kont _ _ _ _ hrun
    exact ⟨k1, w_i2s hx hb hd k2⟩
  case dup =>
    have hchk : (Nat.beq len 1) = true := hchk
    obtain rfl := nbeq hchk
    rcases pD_s hrun with ⟨x, r, rfl, hrun⟩ | ⟨x, r, rfl, hrun⟩
    · obtain ⟨k1, k2⟩ := kont _ _ _ _ hrun
      exact ⟨k1, w_dupI hx hb hd k2⟩
    · obtain ⟨k1, k2⟩ := kont _ _ _ _ hrun
      exact ⟨k1, w_dupR hx hb hd k2⟩
  case dup2 =>
    have hchk : (Nat.beq len 1) = true := hchk
    obtain rfl := nbeq hchk
    obtain ⟨x, y, r, rfl, hrun⟩ := pIR_s hrun
    obtain ⟨k1, k2⟩ := kont _ _ _ _ hrun
    exact ⟨k1, w_dup2 hx hb hd k2⟩
  case ifCond cd off =>
    have hchk : (Nat.beq len 3 && decide ((pc : Int) + off = (ax a 0 : Int))) = true := hchk
    simp only [Bool.and_eq_true, decide_eq_true_eq] at hchk
    obtain ⟨e1, e2⟩ := hchk
    obtain rfl := nbeq e1
    cases cd
    case eq =>
      obtain ⟨x, r, rfl, hrun⟩ := pI_s hrun
      rcases ite_s hrun with ⟨hc, hrun⟩ | ⟨hc, hrun⟩
      · obtain ⟨k1, k2⟩ := kont _ _ _ _ hrun
        exact ⟨k1, w_if_eq hx hb hd e2 (fun _ => k2) (fun z => absurd hc z)⟩
      · obtain ⟨k1, k2⟩ := kont _ _ _ _ hrun
        exact ⟨k1, w_if_eq hx hb hd e2 (fun z => absurd z hc) (fun _ => k2)⟩
    case ne =>
      obtain ⟨x, r, rfl, hrun⟩ := pI_s hrun
      rcases ite_s hrun with ⟨hc, hrun⟩ | ⟨hc, hrun⟩
      · obtain ⟨k1, k2⟩ := kont _ _ _ _ hrun
        exact ⟨k1, w_if_ne hx hb hd e2 (fun _ => k2) (fun z => absurd hc z)⟩
      · obtain ⟨k1, k2⟩ := kont _ _ _ _ hrun
        exact ⟨k1, w_if_ne hx hb hd e2 (fun z => absurd z hc) (fun _ => k2)⟩
    case lt =>
      obtain ⟨x, r, rfl, hrun⟩ := pI_s hrun
      rcases ite_s hrun with ⟨hc, hrun⟩ | ⟨hc, hrun⟩
      · obtain ⟨k1, k2⟩ := kont _ _ _ _ hrun
        exact ⟨k1, w_if_lt hx hb hd e2 (fun _ => k2) (fun z => absurd hc z)⟩
      · obtain ⟨k1, k2⟩ := kont _ _ _ _ hrun
        exact ⟨k1, w_if_lt hx hb hd e2 (fun z => absurd z hc) (fun _ => k2)⟩
    case ge =>
      obtain ⟨x, r, rfl, hrun⟩ := pI_s hrun
      rcases ite_s hrun with ⟨hc, hrun⟩ | ⟨hc, hrun⟩
      · obtain ⟨k1, k2⟩ := kont _ _ _ _ hrun
        exact ⟨k1, w_if_ge hx hb hd e2 (fun _ => k2) (fun z => absurd hc z)⟩
      · obtain ⟨k1, k2⟩ := kont _ _ _ _ hrun
        exact ⟨k1, w_if_ge hx hb hd e2 (fun z => absurd z hc) (fun _ => k2)⟩
    case gt =>
      obtain ⟨x, r, rfl, hrun⟩ := pI_s hrun
      rcases ite_s hrun with ⟨hc, hrun⟩ | ⟨hc, hrun⟩
      · obtain ⟨k1, k2⟩ := kont _ _ _ _ hrun
        exact ⟨k1, w_if_gt hx hb hd e2 (fun _ => k2) (fun z => absurd hc z)⟩
      · obtain ⟨k1, k2⟩ := kont _ _ _ _ hrun
        exact ⟨k1, w_if_gt hx hb hd e2 (fun z => absurd z hc) (fun _ => k2)⟩
    case le =>
      obtain ⟨x, r, rfl, hrun⟩ := pI_s hrun
      rcases ite_s hrun with ⟨hc, hrun⟩ | ⟨hc, hrun⟩
      · obtain ⟨k1, k2⟩ := kont _ _ _ _ hrun
        exact ⟨k1, w_if_le hx hb hd e2 (fun _ => k2) (fun z => absurd hc z)⟩
      · obtain ⟨k1, k2⟩ := kont _ _ _ _ hrun
        exact ⟨k1, w_if_le hx hb hd e2 (fun z => absurd z hc) (fun _ => k2)⟩
  case if_icmp cd off =>
    have hchk : (Nat.beq len 3 && decide ((pc : Int) + off = (ax a 0 : Int))) = true := hchk
    simp only [Bool.and_eq_true, decide_eq_true_eq] at hchk
    obtain ⟨e1, e2⟩ := hchk
    obtain rfl := nbeq e1
    cases cd
    case eq =>
      obtain ⟨x, y, r, rfl, hrun⟩ := pII_s hrun
      rcases ite_s hrun with ⟨hc, hrun⟩ | ⟨hc, hrun⟩
      · obtain ⟨k1, k2⟩ := kont _ _ _ _ hrun
        exact ⟨k1, w_icmp_eq hx hb hd e2 (fun _ => k2) (fun z => absurd hc z)⟩
      · obtain ⟨k1, k2⟩ := kont _ _ _ _ hrun
        exact ⟨k1, w_icmp_eq hx hb hd e2 (fun z => absurd z hc) (fun _ => k2)⟩
    case ne =>
      obtain ⟨x, y, r, rfl, hrun⟩ := pII_s hrun
      rcases ite_s hrun with ⟨hc, hrun⟩ | ⟨hc, hrun⟩
      · obtain ⟨k1, k2⟩ := kont _ _ _ _ hrun
        exact ⟨k1, w_icmp_ne hx hb hd e2 (fun _ => k2) (fun z => absurd hc z)⟩
      · obtain ⟨k1, k2⟩ := kont _ _ _ _ hrun
        exact ⟨k1, w_icmp_ne hx hb hd e2 (fun z => absurd z hc) (fun _ => k2)⟩
    case lt =>
      obtain ⟨x, y, r, rfl, hrun⟩ := pII_s hrun
      rcases ite_s hrun with ⟨hc, hrun⟩ | ⟨hc, hrun⟩
      · obtain ⟨k1, k2⟩ := kont _ _ _ _ hrun
        exact ⟨k1, w_icmp_lt hx hb hd e2 (fun _ => k2) (fun z => absurd hc z)⟩
      · obtain ⟨k1, k2⟩ := kont _ _ _ _ hrun
        exact ⟨k1, w_icmp_lt hx hb hd e2 (fun z => absurd z hc) (fun _ => k2)⟩
    case ge =>
      obtain ⟨x, y, r, rfl, hrun⟩ := pII_s hrun
      rcases ite_s hrun with ⟨hc, hrun⟩ | ⟨hc, hrun⟩
      · obtain ⟨k1, k2⟩ := kont _ _ _ _ hrun
        exact ⟨k1, w_icmp_ge hx hb hd e2 (fun _ => k2) (fun z => absurd hc z)⟩
      · obtain ⟨k1, k2⟩ := kont _ _ _ _ hrun
        exact ⟨k1, w_icmp_ge hx hb hd e2 (fun z => absurd z hc) (fun _ => k2)⟩
    case gt =>
      obtain ⟨x, y, r, rfl, hrun⟩ := pII_s hrun
      rcases ite_s hrun with ⟨hc, hrun⟩ | ⟨hc, hrun⟩
      · obtain ⟨k1, k2⟩ := kont _ _ _ _ hrun
        exact ⟨k1, w_icmp_gt hx hb hd e2 (fun _ => k2) (fun z => absurd hc z)⟩
      · obtain ⟨k1, k2⟩ := kont _ _ _ _ hrun
        exact ⟨k1, w_icmp_gt hx hb hd e2 (fun z => absurd z hc) (fun _ => k2)⟩
    case le =>
      obtain ⟨x, y, r, rfl, hrun⟩ := pII_s hrun
      rcases ite_s hrun with ⟨hc, hrun⟩ | ⟨hc, hrun⟩
      · obtain ⟨k1, k2⟩ := kont _ _ _ _ hrun
        exact ⟨k1, w_icmp_le hx hb hd e2 (fun _ => k2) (fun z => absurd hc z)⟩
      · obtain ⟨k1, k2⟩ := kont _ _ _ _ hrun
        exact ⟨k1, w_icmp_le hx hb hd e2 (fun z => absurd z hc) (fun _ => k2)⟩
  case ifnull off =>
    have hchk : (Nat.beq len 3 && decide ((pc : Int) + off = (ax a 0 : Int))) = true := hchk
    simp only [Bool.and_eq_true, decide_eq_true_eq] at hchk
    obtain ⟨e1, e2⟩ := hchk
    obtain rfl := nbeq e1
    rcases pO_s hrun with ⟨r, rfl, hrun⟩ | ⟨x, r, rfl, hrun⟩
    · obtain ⟨k1, k2⟩ := kont _ _ _ _ hrun
      exact ⟨k1, w_ifnullN hx hb hd e2 k2⟩
    · obtain ⟨k1, k2⟩ := kont _ _ _ _ hrun
      exact ⟨k1, w_ifnull hx hb hd k2⟩
  case ifnonnull off =>
    have hchk : (Nat.beq len 3 && decide ((pc : Int) + off = (ax a 0 : Int))) = true := hchk
    simp only [Bool.and_eq_true, decide_eq_true_eq] at hchk
    obtain ⟨e1, e2⟩ := hchk
    obtain rfl := nbeq e1
    rcases pO_s hrun with ⟨r, rfl, hrun⟩ | ⟨x, r, rfl, hrun⟩
    · obtain ⟨k1, k2⟩ := kont _ _ _ _ hrun
      exact ⟨k1, w_ifnonnullN hx hb hd k2⟩
    · obtain ⟨k1, k2⟩ := kont _ _ _ _ hrun
      exact ⟨k1, w_ifnonnull hx hb hd e2 k2⟩
  case goto off =>
    have hchk : (Nat.beq len 3 && decide ((pc : Int) + off = (ax a 0 : Int))) = true := hchk
    simp only [Bool.and_eq_true, decide_eq_true_eq] at hchk
    obtain ⟨e1, e2⟩ := hchk
    obtain rfl := nbeq e1
    obtain ⟨k1, k2⟩ := kont _ _ _ _ hrun
    exact ⟨k1, w_goto hx hb hd e2 k2⟩
  case tableswitch d lo hi offs =>
    have hchk : (decide ((pc : Int) + d = (ax a 0 : Int)) && (decide (lo + offs.size = hi + 1) && (decide (0 ≤ lo) && (decide (hi < 1000) && decide (sw = offs.toList.mapIdx (fun j o => (Int32.ofInt (lo + j), ((pc : Int) + o).toNat)) ∧ ∀ o ∈ offs.toList, 0 ≤ (pc : Int) + o))))) = true := hchk
    simp only [Bool.and_eq_true, decide_eq_true_eq] at hchk
    obtain ⟨e1, e2, e3, e4, e5, e6⟩ := hchk
    obtain ⟨x, r, rfl, hrun⟩ := pI_s hrun
    rcases swt_s hrun with ⟨j, t, q1, hrun, -⟩ | ⟨q1, hrun⟩
    · obtain ⟨k1, k2⟩ := kont _ _ _ _ hrun
      rw [e5, List.getElem?_mapIdx] at q1
      cases hj : offs.toList[j]? with
      | none => rw [hj] at q1; cases q1
      | some off =>
        rw [hj] at q1
        simp only [Option.map_some, Option.some.injEq, Prod.mk.injEq] at q1
        obtain ⟨q1, rfl⟩ := q1
        have hjl : j < offs.size := by
          have := (List.getElem?_eq_some_iff.mp hj).1
          simpa using this
        have hxi : x.toInt = lo + j := by rw [← q1]; exact i32_small (by omega) (by omega)
        have hge := e6 off (List.mem_of_getElem? hj)
        exact ⟨k1, w_tableIn hx hb hd (by omega) (by omega) (by rw [hxi, show (lo + (j : Int) - lo).toNat = j by omega]; simpa using hj) (by omega) k2⟩
    · obtain ⟨k1, k2⟩ := kont _ _ _ _ hrun
      refine ⟨k1, w_tableOut hx hb hd ?_ e1 k2⟩
      rcases Int.lt_or_le x.toInt lo with z | z
      · exact Or.inl z
      rcases Int.lt_or_le hi x.toInt with z2 | z2
      · exact Or.inr z2
      exfalso
      have hjl : (x.toInt - lo).toNat < offs.toList.length := by simp; omega
      obtain ⟨off, hoff⟩ : ∃ off, offs.toList[(x.toInt - lo).toNat]? = some off := ⟨_, List.getElem?_eq_getElem hjl⟩
      refine q1 (Int32.ofInt (lo + ((x.toInt - lo).toNat : Nat)), ((pc : Int) + off).toNat) ?_ ?_
      · rw [e5]
        refine List.mem_of_getElem? (i := (x.toInt - lo).toNat) ?_
        rw [List.getElem?_mapIdx, hoff]
        rfl
      · show Int32.ofInt (lo + ((x.toInt - lo).toNat : Nat)) = x
        rw [show lo + ((x.toInt - lo).toNat : Nat) = x.toInt by omega, Int32.ofInt_toInt]
  case lookupswitch d ps =>
    have hchk : (decide ((pc : Int) + d = (ax a 0 : Int)) && ((ps.toList.zip (ps.toList.drop 1)).all (fun (a, next) => a.1 < next.1) && decide (sw = ps.toList.map (fun o => (Int32.ofInt o.1, ((pc : Int) + o.2).toNat)) ∧ ∀ o ∈ ps.toList, 0 ≤ (pc : Int) + o.2 ∧ 0 ≤ o.1 ∧ o.1 < 1000))) = true := hchk
    simp only [Bool.and_eq_true, decide_eq_true_eq] at hchk
    obtain ⟨e1, e2, e3, e4⟩ := hchk
    obtain ⟨x, r, rfl, hrun⟩ := pI_s hrun
    rcases swt_s hrun with ⟨j, t, q1, hrun, q3⟩ | ⟨q1, hrun⟩
    · obtain ⟨k1, k2⟩ := kont _ _ _ _ hrun
      rw [e3, List.getElem?_map] at q1
      cases hj : ps.toList[j]? with
      | none => rw [hj] at q1; cases q1
      | some ao =>
        rw [hj] at q1
        simp only [Option.map_some, Option.some.injEq, Prod.mk.injEq] at q1
        obtain ⟨q1, rfl⟩ := q1
        have hge := e4 ao (List.mem_of_getElem? hj)
        refine ⟨k1, w_lookup hx hb hd e2 (looki (fun o ho => (e4 o ho).2) hj q1 (fun i hi y hy => ?_)) (by omega) k2⟩
        have := q3 i hi (Int32.ofInt y.1, ((pc : Int) + y.2).toNat) (by rw [e3, List.getElem?_map, hy]; rfl)
        exact this
    · obtain ⟨k1, k2⟩ := kont _ _ _ _ hrun
      refine ⟨k1, w_lookup hx hb hd e2 (looko (fun o ho => (e4 o ho).2) (fun y hy => ?_)) e1 k2⟩
      exact q1 (Int32.ofInt y.1, ((pc : Int) + y.2).toNat) (by rw [e3]; exact List.mem_map.mpr ⟨y, hy, rfl⟩)
  case getstatic ix =>
    have hchk : (Nat.beq len 3 && (in3 stab (mi M).1 ix (ax a 0) && (Nat.blt 0 (ax a 0) && Nat.blt (ax a 0) 5))) = true := hchk
    simp only [Bool.and_eq_true, decide_eq_true_eq] at hchk
    obtain ⟨e1, e2, e3, e4⟩ := hchk
    obtain rfl := nbeq e1
    obtain ⟨k1, k2⟩ := kont _ _ _ _ hrun
    exact ⟨k1, w_gets hx hb hts hown hK (in3_mem e2) (Nat.blt_eq.mp e3) (Nat.blt_eq.mp e4) hd k2⟩
  case getfield ix =>
    have hchk : (Nat.beq len 3 && (in4 ftab (mi M).1 ix (ax a 0) (ax a 1) && (Nat.blt (ax a 0) 13 && (Nat.blt (ax a 1) (clT (ax a 0)).2.2 && Nat.beq (gn (gll ftT (ax a 0)) (ax a 1)) (ax a 2))))) = true := hchk
    simp only [Bool.and_eq_true, decide_eq_true_eq] at hchk
    obtain ⟨e1, e2, e3, e4, e5⟩ := hchk
    obtain rfl := nbeq e1
    obtain ⟨b, r, rfl, hrun⟩ := pR_s hrun
    obtain ⟨hok, hrun⟩ := bif_s hrun
    rcases t4_s hrun with ⟨htg, hrun⟩ | ⟨htg, hrun⟩ | ⟨htg, hrun⟩ | ⟨t1, t2, t3, hrun⟩
    · obtain ⟨k1, k2⟩ := kont _ _ _ _ hrun
      refine ⟨k1, fun hn H locs cls hR hS hL => ?_⟩
      obtain ⟨o1, o2⟩ := okT_at hok hR.2.1
      exact w_get hx hb hts hown hK (in4_mem e2) (Nat.blt_eq.mp e3) (Nat.blt_eq.mp e4) o1 o2 hd (by unfold fld; rw [nbeq e5, htg]; rfl) k2 hn H locs cls hR hS hL
    · rcases oel_s hrun with ⟨hv, hrun⟩ | ⟨x, hv, hrun⟩
      · obtain ⟨k1, k2⟩ := kont _ _ _ _ hrun
        refine ⟨k1, fun hn H locs cls hR hS hL => ?_⟩
        obtain ⟨o1, o2⟩ := okT_at hok hR.2.1
        exact w_get hx hb hts hown hK (in4_mem e2) (Nat.blt_eq.mp e3) (Nat.blt_eq.mp e4) o1 o2 hd (by unfold fld; rw [nbeq e5, htg, hv]; rfl) k2 hn H locs cls hR hS hL
      · obtain ⟨k1, k2⟩ := kont _ _ _ _ hrun
        refine ⟨k1, fun hn H locs cls hR hS hL => ?_⟩
        obtain ⟨o1, o2⟩ := okT_at hok hR.2.1
        exact w_get hx hb hts hown hK (in4_mem e2) (Nat.blt_eq.mp e3) (Nat.blt_eq.mp e4) o1 o2 hd (by unfold fld; rw [nbeq e5, htg, hv]; rfl) k2 hn H locs cls hR hS hL
    · obtain ⟨k1, k2⟩ := kont _ _ _ _ hrun
      refine ⟨k1, fun hn H locs cls hR hS hL => ?_⟩
      obtain ⟨o1, o2⟩ := okT_at hok hR.2.1
      exact w_get hx hb hts hown hK (in4_mem e2) (Nat.blt_eq.mp e3) (Nat.blt_eq.mp e4) o1 o2 hd (by unfold fld; rw [nbeq e5, htg]; rfl) k2 hn H locs cls hR hS hL
    · obtain ⟨k1, k2⟩ := kont _ _ _ _ hrun
      refine ⟨k1, fun hn H locs cls hR hS hL => ?_⟩
      obtain ⟨o1, o2⟩ := okT_at hok hR.2.1
      refine w_get hx hb hts hown hK (in4_mem e2) (Nat.blt_eq.mp e3) (Nat.blt_eq.mp e4) o1 o2 hd ?_ k2 hn H locs cls hR hS hL
      unfold fld
      rw [nbeq e5]
      split
      · rename_i z; exact absurd z t1
      · rename_i z; exact absurd z t2
      · rfl
  case putfield ix =>
    have hchk : (Nat.beq len 3 && (in4 ftab (mi M).1 ix (ax a 0) (ax a 1) && (Nat.blt (ax a 0) 13 && (Nat.blt (ax a 1) (clT (ax a 0)).2.2 && (Nat.beq (gn (gll ftT (ax a 0)) (ax a 1)) (ax a 2) && (!((clT (ax a 0)).2.1 (ax a 1)).2.2.2 || (decide ((mi M).2.1.name = "<init>") && Nat.beq (ax a 0) (mi M).1))))))) = true := hchk
    simp only [Bool.and_eq_true, decide_eq_true_eq] at hchk
    obtain ⟨e1, e2, e3, e4, e5, e6⟩ := hchk
    obtain rfl := nbeq e1
    have hfin : ((clT (ax a 0)).2.1 (ax a 1)).2.2.2 = false ∨ (meth.name = "<init>" ∧ ax a 0 = (mi M).1) := by
      simp only [Bool.or_eq_true, Bool.not_eq_true', Bool.and_eq_true, decide_eq_true_eq] at e6
      rcases e6 with z | ⟨z1, z2⟩
      · exact Or.inl z
      · exact Or.inr ⟨hini z1, nbeq z2⟩
    have e5 := nbeq e5
    rcases t4_s hrun with ⟨htg, hrun⟩ | ⟨htg, hrun⟩ | ⟨htg, hrun⟩ | ⟨t1, t2, t3, hrun⟩
    · obtain ⟨x, b, r, rfl, hrun⟩ := pJR_s hrun
      obtain ⟨hok, hrun⟩ := bif_s hrun
      obtain ⟨k1, k2⟩ := kont _ _ _ _ hrun
      refine ⟨k1, fun hn H locs cls hR hS hL => ?_⟩
      obtain ⟨o1, o2⟩ := okT_at hok hR.2.1
      exact w_putJ hx hb hts hown hK (in4_mem e2) (Nat.blt_eq.mp e3) (Nat.blt_eq.mp e4) o1 o2 hfin hd (by rw [e5, htg]) k2 hn H locs cls hR hS hL
    · obtain ⟨x, b, r, rfl, hrun⟩ := pRR_s hrun
      obtain ⟨hok, hrun⟩ := bif_s hrun
      obtain ⟨s2, hw, hrun⟩ := oS_s hrun
      obtain ⟨k1, k2⟩ := kont _ _ _ _ hrun
      refine ⟨k1, fun hn H locs cls hR hS hL => ?_⟩
      obtain ⟨o1, o2⟩ := okT_at hok hR.2.1
      exact w_putR hx hb hts hown hK (in4_mem e2) (Nat.blt_eq.mp e3) (Nat.blt_eq.mp e4) o1 o2 hfin hd (by rw [e5, htg]) (hwr _ _ _ _ _ hw) k2 hn H locs cls hR hS hL
    · obtain ⟨x, b, r, rfl, hrun⟩ := pIR_s hrun
      obtain ⟨hok, hrun⟩ := bif_s hrun
      simp only [Bool.and_eq_true] at hok
      obtain ⟨k1, k2⟩ := kont _ _ _ _ hrun
      refine ⟨k1, fun hn H locs cls hR hS hL => ?_⟩
      obtain ⟨o1, o2⟩ := okT_at hok.1 hR.2.1
      exact w_putI hx hb hts hown hK (in4_mem e2) (Nat.blt_eq.mp e3) (Nat.blt_eq.mp e4) o1 o2 hfin hd (Or.inr ⟨by rw [e5, htg], hok.2⟩) k2 hn H locs cls hR hS hL
    · obtain ⟨x, b, r, rfl, hrun⟩ := pIR_s hrun
      obtain ⟨hok, hrun⟩ := bif_s hrun
      obtain ⟨k1, k2⟩ := kont _ _ _ _ hrun
      refine ⟨k1, fun hn H locs cls hR hS hL => ?_⟩
      obtain ⟨o1, o2⟩ := okT_at hok hR.2.1
      have hle := ftT_le (ax a 0) (Nat.blt_eq.mp e3) (ax a 1) (Nat.blt_eq.mp e4)
      rw [e5] at hle
      have hz : ax a 2 = 0 := by
        have q1 : ax a 2 ≠ 1 := t1
        have q2 : ax a 2 ≠ 2 := t2
        have q3 : ax a 2 ≠ 3 := t3
        omega
      exact w_putI hx hb hts hown hK (in4_mem e2) (Nat.blt_eq.mp e3) (Nat.blt_eq.mp e4) o1 o2 hfin hd (Or.inl (by rw [e5, hz])) k2 hn H locs cls hR hS hL
  case arraylength =>
    have hchk : (Nat.beq len 1) = true := hchk
    obtain rfl := nbeq hchk
    obtain ⟨b, r, rfl, hrun⟩ := pR_s hrun
    obtain ⟨hok, hrun⟩ := bif_s hrun
    obtain ⟨k1, k2⟩ := kont _ _ _ _ hrun
    refine ⟨k1, fun hn H locs cls hR hS hL => ?_⟩
    simp only [Bool.and_eq_true, Bool.or_eq_true] at hok
    have hbl : b < h.1 := by
      rcases hok.2 with z | z
      · have := Nat.blt_eq.mp z
        have := hR.2.1
        omega
      · exact Nat.blt_eq.mp z
    exact w_alen hx hb hK (Nat.le_of_ble_eq_true hok.1) hbl hd k2 hn H locs cls hR hS hL
  case iaload =>
    have hchk : (Nat.beq len 1) = true := hchk
    obtain rfl := nbeq hchk
    obtain ⟨i, b, r, rfl, hrun⟩ := pIR_s hrun
    obtain ⟨hok, hrun⟩ := bif_s hrun
    obtain ⟨hin, hrun⟩ := if_s hrun
    obtain ⟨k1, k2⟩ := kont _ _ _ _ hrun
    refine ⟨k1, fun hn H locs cls hR hS hL => ?_⟩
    obtain ⟨o1, o2⟩ := okT_at hok hR.2.1
    exact w_iald hx hb hK o1 o2 hin hd k2 hn H locs cls hR hS hL
  case baload =>
    have hchk : (Nat.beq len 1) = true := hchk
    obtain rfl := nbeq hchk
    obtain ⟨i, b, r, rfl, hrun⟩ := pIR_s hrun
    obtain ⟨hok, hrun⟩ := bif_s hrun
    obtain ⟨hin, hrun⟩ := if_s hrun
    obtain ⟨k1, k2⟩ := kont _ _ _ _ hrun
    refine ⟨k1, fun hn H locs cls hR hS hL => ?_⟩
    obtain ⟨o1, o2⟩ := okT_at hok hR.2.1
    exact w_bald hx hb hK o1 o2 hin hd k2 hn H locs cls hR hS hL
  case aaload =>
    have hchk : (Nat.beq len 1) = true := hchk
    obtain rfl := nbeq hchk
    obtain ⟨i, b, r, rfl, hrun⟩ := pIR_s hrun
    obtain ⟨hok, hrun⟩ := bif_s hrun
    obtain ⟨hin, hrun⟩ := if_s hrun
    rcases oel_s hrun with ⟨hv, hrun⟩ | ⟨x, hv, hrun⟩
    · obtain ⟨k1, k2⟩ := kont _ _ _ _ hrun
      refine ⟨k1, fun hn H locs cls hR hS hL => ?_⟩
      rcases Bool.or_eq_true _ _ ▸ hok with z | z
      · obtain ⟨o1, o2⟩ := okT_at z hR.2.1
        exact w_aald hx hb hK (Or.inl o1) o2 hin hd (Or.inl ⟨hv, rfl⟩) k2 hn H locs cls hR hS hL
      · obtain ⟨o1, o2⟩ := okT_at z hR.2.1
        exact w_aald hx hb hK (Or.inr o1) o2 hin hd (Or.inl ⟨hv, rfl⟩) k2 hn H locs cls hR hS hL
    · obtain ⟨k1, k2⟩ := kont _ _ _ _ hrun
      refine ⟨k1, fun hn H locs cls hR hS hL => ?_⟩
      rcases Bool.or_eq_true _ _ ▸ hok with z | z
      · obtain ⟨o1, o2⟩ := okT_at z hR.2.1
        exact w_aald hx hb hK (Or.inl o1) o2 hin hd (Or.inr ⟨x, hv, rfl⟩) k2 hn H locs cls hR hS hL
      · obtain ⟨o1, o2⟩ := okT_at z hR.2.1
        exact w_aald hx hb hK (Or.inr o1) o2 hin hd (Or.inr ⟨x, hv, rfl⟩) k2 hn H locs cls hR hS hL
  case iastore =>
    have hchk : (Nat.beq len 1) = true := hchk
    obtain rfl := nbeq hchk
    obtain ⟨x, i, b, r, rfl, hrun⟩ := pIIR_s hrun
    obtain ⟨hok, hrun⟩ := bif_s hrun
    obtain ⟨hin, hrun⟩ := if_s hrun
    obtain ⟨k1, k2⟩ := kont _ _ _ _ hrun
    refine ⟨k1, fun hn H locs cls hR hS hL => ?_⟩
    simp only [Bool.and_eq_true] at hok
    obtain ⟨o1, o2⟩ := okT_at hok.1 hR.2.1
    exact w_iast hx hb hK o1 (Nat.le_of_ble_eq_true hok.2) o2 hin hd k2 hn H locs cls hR hS hL
  case bastore =>
    have hchk : (Nat.beq len 1) = true := hchk
    obtain rfl := nbeq hchk
    obtain ⟨x, i, b, r, rfl, hrun⟩ := pIIR_s hrun
    obtain ⟨hok, hrun⟩ := bif_s hrun
    obtain ⟨hin, hrun⟩ := if_s hrun
    obtain ⟨k1, k2⟩ := kont _ _ _ _ hrun
    refine ⟨k1, fun hn H locs cls hR hS hL => ?_⟩
    obtain ⟨o1, o2⟩ := okT_at hok hR.2.1
    exact w_bast hx hb hK o1 o2 hin hd k2 hn H locs cls hR hS hL
  case aastore =>
    have hchk : (Nat.beq len 1) = true := hchk
    obtain rfl := nbeq hchk
    obtain ⟨x, i, b, r, rfl, hrun⟩ := pRIR_s hrun
    obtain ⟨hok, hrun⟩ := bif_s hrun
    obtain ⟨hin, hrun⟩ := if_s hrun
    obtain ⟨s2, hw, hrun⟩ := oS_s hrun
    obtain ⟨k1, k2⟩ := kont _ _ _ _ hrun
    refine ⟨k1, fun hn H locs cls hR hS hL => ?_⟩
    simp only [Bool.and_eq_true] at hok
    obtain ⟨o1, o2⟩ := okT_at hok.1 hR.2.1
    obtain ⟨o3, o4⟩ := okT_at hok.2 hR.2.1
    exact w_aast hx hb hK o1 o2 o3 o4 hin hd (hwr _ _ _ _ _ hw) k2 hn H locs cls hR hS hL
  case new ix =>
    have hchk : (Nat.beq len 3 && (in3 ntab (mi M).1 ix (ax a 0) && Nat.blt (ax a 0) 13)) = true := hchk
    simp only [Bool.and_eq_true, decide_eq_true_eq] at hchk
    obtain ⟨e1, e2, e3⟩ := hchk
    obtain rfl := nbeq e1
    obtain ⟨hok, hrun⟩ := bif_s hrun
    obtain ⟨k1, k2⟩ := kont _ _ _ _ hrun
    have hk1 : h.1 + 1 ≤ h1.1 := k1
    have m1 := szs_le (gL G) hk1
    have g1 : h.1 + 1 - n0 ≤ R.cells := by omega
    have g2 : szs (gL G) (h.1 + 1) - szs (gL G) n0 ≤ R.slots := by omega
    exact ⟨by omega, w_new hx hb hts hown hK hs h5 (in3_mem e2) (Nat.blt_eq.mp e3) (nbeq hok) g1 g2 hd k2⟩
  case newarray t =>
    have hchk : (Nat.beq len 2 && ((Nat.beq (ax a 0) 0 && decide (t = .int)) || (Nat.beq (ax a 0) 1 && decide (t = .boolean)))) = true := hchk
    simp only [Bool.and_eq_true, decide_eq_true_eq] at hchk
    obtain ⟨e1, e2⟩ := hchk
    obtain rfl := nbeq e1
    obtain ⟨x, r, rfl, hrun⟩ := pI_s hrun
    obtain ⟨hok, hrun⟩ := bif_s hrun
    obtain ⟨k1, k2⟩ := kont _ _ _ _ hrun
    have hk1 : h.1 + 1 ≤ h1.1 := k1
    have m1 := szs_le (gL G) hk1
    have g1 : h.1 + 1 - n0 ≤ R.cells := by omega
    have g2 : szs (gL G) (h.1 + 1) - szs (gL G) n0 ≤ R.slots := by omega
    simp only [Bool.and_eq_true, decide_eq_true_eq] at hok
    refine ⟨by omega, w_newarr hx hb hts hK hs h5 (t := t) ?_ (nbeq hok.2.1) hok.2.2 g1 g2 hd k2⟩
    simp only [Bool.or_eq_true, Bool.and_eq_true, decide_eq_true_eq] at e2
    rcases e2 with ⟨z1, z2⟩ | ⟨z1, z2⟩
    · exact Or.inl ⟨by rw [nbeq hok.1, nbeq z1], z2⟩
    · exact Or.inr ⟨by rw [nbeq hok.1, nbeq z1], z2⟩
  case anewarray ix =>
    have hchk : (Nat.beq len 3 && in2 atab (mi M).1 ix) = true := hchk
    simp only [Bool.and_eq_true, decide_eq_true_eq] at hchk
    obtain ⟨e1, e2⟩ := hchk
    obtain rfl := nbeq e1
    obtain ⟨x, r, rfl, hrun⟩ := pI_s hrun
    obtain ⟨hok, hrun⟩ := bif_s hrun
    obtain ⟨k1, k2⟩ := kont _ _ _ _ hrun
    have hk1 : h.1 + 1 ≤ h1.1 := k1
    have m1 := szs_le (gL G) hk1
    have g1 : h.1 + 1 - n0 ≤ R.cells := by omega
    have g2 : szs (gL G) (h.1 + 1) - szs (gL G) n0 ≤ R.slots := by omega
    simp only [Bool.and_eq_true, decide_eq_true_eq] at hok
    exact ⟨by omega, w_anewarr hx hb hts hown hK hs h5 (in2_mem e2) (nbeq hok.1) (nbeq hok.2.1) hok.2.2 g1 g2 hd k2⟩
  case multianewarray ix dm =>
    have hchk : (Nat.beq len 4 && (in2 utab (mi M).1 ix && Nat.beq dm 2)) = true := hchk
    simp only [Bool.and_eq_true, decide_eq_true_eq] at hchk
    obtain ⟨e1, e2, e3⟩ := hchk
    obtain rfl := nbeq e1
    obtain rfl := nbeq e3
    obtain ⟨x, y, r, rfl, hrun⟩ := pII_s hrun
    obtain ⟨hok, hrun⟩ := bif_s hrun
    obtain ⟨s2, hw, hrun⟩ := oS_s hrun
    obtain ⟨k1, k2⟩ := kont _ _ _ _ hrun
    simp only [Bool.and_eq_true, decide_eq_true_eq] at hok
    have hk1 : h.1 + (1 + x.toNatClampNeg) ≤ h1.1 := k1
    have m1 := szs_le (gL G) hk1
    exact ⟨by omega, w_mna hwr hx hb hts hown hK hs h5 (in2_mem e2) (nbeq hok.1.1) (nbeq hok.1.2.1) hok.1.2.2 hok.2.1 hok.2.2 hw (by omega) (by omega) hd k2⟩
  case invokevirtual ix =>
    have hchk : (Nat.beq len 3 && (in4 ctab (mi M).1 ix (ax a 0) 0 && (chkC (mi M).2.2.2.2.2.2.1 (mi M).2.2.2.2.2.2.2 (ax a 0) (ax a 1) (ax a 2) (ax a 4) && (Nat.beq (mi (ax a 0)).1 (ax a 3) && (Nat.blt (ax a 3) 13 && Nat.blt 0 (ax a 1)))))) = true := hchk
    simp only [Bool.and_eq_true, decide_eq_true_eq] at hchk
    obtain ⟨e1, e2, e3, e4, e5, e6⟩ := hchk
    obtain rfl := nbeq e1
    obtain ⟨q1, q2, q3, q4, q5⟩ := okC e3
    obtain ⟨as, r, hst, hal, hcs, hca, hrun2⟩ := tkm_s hrun
    clear hrun
    obtain ⟨b, tl, rfl, hrun⟩ := hdR_s hrun2
    have hz := ct _ (in4_mem e2)
    unfold chkE at hz
    simp only [Bool.and_eq_true, decide_eq_true_eq, Bool.not_eq_true'] at hz
    obtain ⟨z1, z2⟩ := hz
    · obtain ⟨hok, hrun⟩ := bif_s hrun
      have hgood : CallGood (ax a 0) (.ref b :: tl) := ⟨q4, q5, by rw [q3]; exact hca⟩
      have hst2 : st = tl.reverse ++ .ref b :: r := by rw [hst]; simp
      subst hst2
      rcases t3_s hrun with hrun | hrun | hrun | hrun
      · obtain ⟨⟨v2, h2⟩, hr2, hrun⟩ := callM _ _ _ _ hrun
        obtain ⟨rfl, hrun⟩ := rV_s hrun
        obtain ⟨c1, c2⟩ := cont _ _ _ _ _ hgood hr2
        obtain ⟨k1, k2⟩ := kont _ _ _ _ hrun
        have k1 : h2.1 ≤ h1.1 := k1
        have m1 := szs_le (gL G) k1
        refine ⟨Nat.le_trans c1 k1, ?_⟩
        exact fun hn H locs cls hR hS hL => w_virt hx hb hml hts hown hK hs h5 (in4_mem e2) z1 z2 q1 (by rw [q2, hal]) (by rw [nbeq e4]; exact (okT_at hok hR.2.1).1) (okT_at hok hR.2.1).2 (by rw [nbeq e4]; exact Nat.blt_eq.mp e5) hcs c1 (by omega) (by omega) c2 hd k2 hn H locs cls hR hS hL
      · obtain ⟨⟨v2, h2⟩, hr2, hrun⟩ := callM _ _ _ _ hrun
        obtain ⟨x, rfl, hrun⟩ := rI_s hrun
        obtain ⟨c1, c2⟩ := cont _ _ _ _ _ hgood hr2
        obtain ⟨k1, k2⟩ := kont _ _ _ _ hrun
        have k1 : h2.1 ≤ h1.1 := k1
        have m1 := szs_le (gL G) k1
        refine ⟨Nat.le_trans c1 k1, ?_⟩
        exact fun hn H locs cls hR hS hL => w_virt hx hb hml hts hown hK hs h5 (in4_mem e2) z1 z2 q1 (by rw [q2, hal]) (by rw [nbeq e4]; exact (okT_at hok hR.2.1).1) (okT_at hok hR.2.1).2 (by rw [nbeq e4]; exact Nat.blt_eq.mp e5) hcs c1 (by omega) (by omega) c2 hd k2 hn H locs cls hR hS hL
      · obtain ⟨⟨v2, h2⟩, hr2, hrun⟩ := callM _ _ _ _ hrun
        obtain ⟨x, rfl, hrun⟩ := rJ_s hrun
        obtain ⟨c1, c2⟩ := cont _ _ _ _ _ hgood hr2
        obtain ⟨k1, k2⟩ := kont _ _ _ _ hrun
        have k1 : h2.1 ≤ h1.1 := k1
        have m1 := szs_le (gL G) k1
        refine ⟨Nat.le_trans c1 k1, ?_⟩
        exact fun hn H locs cls hR hS hL => w_virt hx hb hml hts hown hK hs h5 (in4_mem e2) z1 z2 q1 (by rw [q2, hal]) (by rw [nbeq e4]; exact (okT_at hok hR.2.1).1) (okT_at hok hR.2.1).2 (by rw [nbeq e4]; exact Nat.blt_eq.mp e5) hcs c1 (by omega) (by omega) c2 hd k2 hn H locs cls hR hS hL
      · obtain ⟨⟨v2, h2⟩, hr2, hrun⟩ := callM _ _ _ _ hrun
        obtain ⟨c1, c2⟩ := cont _ _ _ _ _ hgood hr2
        rcases rO_s hrun with ⟨rfl, hrun⟩ | ⟨x, rfl, hrun⟩
        · obtain ⟨k1, k2⟩ := kont _ _ _ _ hrun
          have k1 : h2.1 ≤ h1.1 := k1
          have m1 := szs_le (gL G) k1
          refine ⟨Nat.le_trans c1 k1, ?_⟩
          exact fun hn H locs cls hR hS hL => w_virt hx hb hml hts hown hK hs h5 (in4_mem e2) z1 z2 q1 (by rw [q2, hal]) (by rw [nbeq e4]; exact (okT_at hok hR.2.1).1) (okT_at hok hR.2.1).2 (by rw [nbeq e4]; exact Nat.blt_eq.mp e5) hcs c1 (by omega) (by omega) c2 hd k2 hn H locs cls hR hS hL
        · obtain ⟨k1, k2⟩ := kont _ _ _ _ hrun
          have k1 : h2.1 ≤ h1.1 := k1
          have m1 := szs_le (gL G) k1
          refine ⟨Nat.le_trans c1 k1, ?_⟩
          exact fun hn H locs cls hR hS hL => w_virt hx hb hml hts hown hK hs h5 (in4_mem e2) z1 z2 q1 (by rw [q2, hal]) (by rw [nbeq e4]; exact (okT_at hok hR.2.1).1) (okT_at hok hR.2.1).2 (by rw [nbeq e4]; exact Nat.blt_eq.mp e5) hcs c1 (by omega) (by omega) c2 hd k2 hn H locs cls hR hS hL
  case invokestatic ix =>
    rcases xk_s hrun with ⟨rfl, hrun⟩ | ⟨rfl, hrun⟩ | ⟨rfl, hrun⟩ | ⟨rfl, hrun⟩ | ⟨a0, a1, a2, a3, hrun⟩
    · have hchk : (Nat.beq len 3 && (in2 ytab (mi M).1 ix && (Nat.ble 1 (mi M).2.2.2.2.2.2.1 && Nat.ble 26 (mi M).2.2.2.2.2.2.2))) = true := hchk
      simp only [Bool.and_eq_true, decide_eq_true_eq] at hchk
      obtain ⟨e1, e2, e3, e4⟩ := hchk
      obtain rfl := nbeq e1
      obtain ⟨x, dp, b, sp, b0, r, rfl, hrun⟩ := pCpy_s hrun
      obtain ⟨hok, hrun⟩ := bif_s hrun
      obtain ⟨hin, hrun⟩ := if_s hrun
      obtain ⟨k1, k2⟩ := kont _ _ _ _ hrun
      simp only [Bool.and_eq_true] at hok
      have e3 := Nat.le_of_ble_eq_true e3
      have e4 := Nat.le_of_ble_eq_true e4
      refine ⟨k1, fun hn H locs cls hR hS hL => ?_⟩
      obtain ⟨o1, o2⟩ := okT_at hok.1 hR.2.1
      obtain ⟨o3, o4⟩ := okT_at hok.2.2.1 hR.2.1
      exact w_copy hx hb hml hts hown hK (by omega) (by omega) (in2_mem e2) o1 (Nat.le_of_ble_eq_true hok.2.1) o2 o3 (Nat.le_of_ble_eq_true hok.2.2.2.1) o4 (Nat.le_of_ble_eq_true hok.2.2.2.2) hin hd k2 hn H locs cls hR hS hL
    · have hchk : (Nat.beq len 3 && (in3 xtab (mi M).1 ix 1 && (Nat.ble 1 (mi M).2.2.2.2.2.2.1 && Nat.ble 21 (mi M).2.2.2.2.2.2.2))) = true := hchk
      simp only [Bool.and_eq_true, decide_eq_true_eq] at hchk
      obtain ⟨e1, e2, e3, e4⟩ := hchk
      obtain rfl := nbeq e1
      obtain ⟨x, y, r, rfl, hrun⟩ := pII_s hrun
      obtain ⟨hok, hrun⟩ := bif_s hrun
      obtain ⟨k1, k2⟩ := kont _ _ _ _ hrun
      have e3 := Nat.le_of_ble_eq_true e3
      have e4 := Nat.le_of_ble_eq_true e4
      have m1 := szs_le (gL G) k1
      exact ⟨k1, w_max hx hb hml hts hown (by omega) (by omega) (in3_mem e2) (Nat.le_of_ble_eq_true hok) (by omega) (by omega) hd k2⟩
    · have hchk : (Nat.beq len 3 && (in3 xtab (mi M).1 ix 2 && (Nat.ble 1 (mi M).2.2.2.2.2.2.1 && Nat.ble 21 (mi M).2.2.2.2.2.2.2))) = true := hchk
      simp only [Bool.and_eq_true, decide_eq_true_eq] at hchk
      obtain ⟨e1, e2, e3, e4⟩ := hchk
      obtain rfl := nbeq e1
      obtain ⟨x, y, r, rfl, hrun⟩ := pII_s hrun
      obtain ⟨hok, hrun⟩ := bif_s hrun
      obtain ⟨k1, k2⟩ := kont _ _ _ _ hrun
      have e3 := Nat.le_of_ble_eq_true e3
      have e4 := Nat.le_of_ble_eq_true e4
      have m1 := szs_le (gL G) k1
      exact ⟨k1, w_min hx hb hml hts hown (by omega) (by omega) (in3_mem e2) (Nat.le_of_ble_eq_true hok) (by omega) (by omega) hd k2⟩
    · have hchk : (Nat.beq len 3 && (in3 xtab (mi M).1 ix 3 && (Nat.ble 1 (mi M).2.2.2.2.2.2.1 && Nat.ble 21 (mi M).2.2.2.2.2.2.2))) = true := hchk
      simp only [Bool.and_eq_true, decide_eq_true_eq] at hchk
      obtain ⟨e1, e2, e3, e4⟩ := hchk
      obtain rfl := nbeq e1
      obtain ⟨x, r, rfl, hrun⟩ := pI_s hrun
      obtain ⟨hok, hrun⟩ := bif_s hrun
      obtain ⟨k1, k2⟩ := kont _ _ _ _ hrun
      have e3 := Nat.le_of_ble_eq_true e3
      have e4 := Nat.le_of_ble_eq_true e4
      have m1 := szs_le (gL G) k1
      exact ⟨k1, w_abs hx hb hml hts hown (by omega) (by omega) (in3_mem e2) (Nat.le_of_ble_eq_true hok) (by omega) (by omega) hd k2⟩
    · have hchk2 : (Nat.beq len 3 && ((in4 ctab (mi M).1 ix (ax a 0) 1 || in4 ctab (mi M).1 ix (ax a 0) 3) && chkC (mi M).2.2.2.2.2.2.1 (mi M).2.2.2.2.2.2.2 (ax a 0) (ax a 1) (ax a 2) (ax a 4))) = true := by
        revert hchk
        unfold chkI
        dsimp only
        split
        · exact absurd rfl a0
        · exact absurd rfl a1
        · exact absurd rfl a2
        · exact absurd rfl a3
        · exact id
      clear hchk
      simp only [Bool.and_eq_true, Bool.or_eq_true] at hchk2
      obtain ⟨e1, e2, e3⟩ := hchk2
      obtain rfl := nbeq e1
      obtain ⟨q1, q2, q3, q4, q5⟩ := okC e3
      obtain ⟨as, r, rfl, hal, hcs, hca, hrun⟩ := tkm_s hrun
      have hgood : CallGood (ax a 0) as := ⟨q4, q5, by rw [q3]; exact hca⟩
      have e2 : ((mi M).1, ix, ax a 0, 1) ∈ ctab ∨ ((mi M).1, ix, ax a 0, 3) ∈ ctab := e2.imp in4_mem in4_mem
      have hz : ax a 0 ∈ statM ∧ isSt (ax a 0) statM = true := by
        rcases e2 with z | z <;> (have hz := ct _ z; unfold chkE at hz; simpa using hz)
      obtain ⟨z1, z2⟩ := hz
      rcases t3_s hrun with hrun | hrun | hrun | hrun
      · obtain ⟨⟨v2, h2⟩, hr2, hrun⟩ := callM _ _ _ _ hrun
        obtain ⟨rfl, hrun⟩ := rV_s hrun
        obtain ⟨c1, c2⟩ := cont _ _ _ _ _ hgood hr2
        obtain ⟨k1, k2⟩ := kont _ _ _ _ hrun
        have k1 : h2.1 ≤ h1.1 := k1
        have m1 := szs_le (gL G) k1
        refine ⟨Nat.le_trans c1 k1, ?_⟩
        exact w_stat hx hb hml hts hown hK hs h5 e2 z1 z2 q1 (by rw [q2, hal]) hcs c1 (by omega) (by omega) c2 hd k2
      · obtain ⟨⟨v2, h2⟩, hr2, hrun⟩ := callM _ _ _ _ hrun
        obtain ⟨x, rfl, hrun⟩ := rI_s hrun
        obtain ⟨c1, c2⟩ := cont _ _ _ _ _ hgood hr2
        obtain ⟨k1, k2⟩ := kont _ _ _ _ hrun
        have k1 : h2.1 ≤ h1.1 := k1
        have m1 := szs_le (gL G) k1
        refine ⟨Nat.le_trans c1 k1, ?_⟩
        exact w_stat hx hb hml hts hown hK hs h5 e2 z1 z2 q1 (by rw [q2, hal]) hcs c1 (by omega) (by omega) c2 hd k2
      · obtain ⟨⟨v2, h2⟩, hr2, hrun⟩ := callM _ _ _ _ hrun
        obtain ⟨x, rfl, hrun⟩ := rJ_s hrun
        obtain ⟨c1, c2⟩ := cont _ _ _ _ _ hgood hr2
        obtain ⟨k1, k2⟩ := kont _ _ _ _ hrun
        have k1 : h2.1 ≤ h1.1 := k1
        have m1 := szs_le (gL G) k1
        refine ⟨Nat.le_trans c1 k1, ?_⟩
        exact w_stat hx hb hml hts hown hK hs h5 e2 z1 z2 q1 (by rw [q2, hal]) hcs c1 (by omega) (by omega) c2 hd k2
      · obtain ⟨⟨v2, h2⟩, hr2, hrun⟩ := callM _ _ _ _ hrun
        obtain ⟨c1, c2⟩ := cont _ _ _ _ _ hgood hr2
        rcases rO_s hrun with ⟨rfl, hrun⟩ | ⟨x, rfl, hrun⟩
        · obtain ⟨k1, k2⟩ := kont _ _ _ _ hrun
          have k1 : h2.1 ≤ h1.1 := k1
          have m1 := szs_le (gL G) k1
          refine ⟨Nat.le_trans c1 k1, ?_⟩
          exact w_stat hx hb hml hts hown hK hs h5 e2 z1 z2 q1 (by rw [q2, hal]) hcs c1 (by omega) (by omega) c2 hd k2
        · obtain ⟨k1, k2⟩ := kont _ _ _ _ hrun
          have k1 : h2.1 ≤ h1.1 := k1
          have m1 := szs_le (gL G) k1
          refine ⟨Nat.le_trans c1 k1, ?_⟩
          exact w_stat hx hb hml hts hown hK hs h5 e2 z1 z2 q1 (by rw [q2, hal]) hcs c1 (by omega) (by omega) c2 hd k2
  case invokespecial ix =>
    rcases nk_s hrun with ⟨rfl, hrun⟩ | ⟨a0, hrunB⟩
    · have hchk : (Nat.beq len 3 && (in2 otab (mi M).1 ix && (Nat.ble 1 (mi M).2.2.2.2.2.2.1 && Nat.ble 20 (mi M).2.2.2.2.2.2.2))) = true := hchk
      simp only [Bool.and_eq_true, decide_eq_true_eq] at hchk
      obtain ⟨e1, e2, e3, e4⟩ := hchk
      obtain rfl := nbeq e1
      obtain ⟨b, r, rfl, hrun⟩ := pR_s hrun
      obtain ⟨hok, hrun⟩ := bif_s hrun
      obtain ⟨k1, k2⟩ := kont _ _ _ _ hrun
      have e3 := Nat.le_of_ble_eq_true e3
      have e4 := Nat.le_of_ble_eq_true e4
      exact ⟨k1, w_objInit hx hb hml hts hown (by omega) (by omega) (in2_mem e2) (Nat.le_of_ble_eq_true hok) hd k2⟩
    · have hchk2 : (Nat.beq len 3 && ((in4 ctab (mi M).1 ix (ax a 0) 2 || in4 ctab (mi M).1 ix (ax a 0) 4) && (chkC (mi M).2.2.2.2.2.2.1 (mi M).2.2.2.2.2.2.2 (ax a 0) (ax a 1) 0 (ax a 4) && Nat.blt 0 (ax a 1)))) = true := by
        revert hchk
        unfold chkI
        dsimp only
        split
        · exact absurd rfl a0
        · exact id
      clear hchk
      simp only [Bool.and_eq_true, Bool.or_eq_true] at hchk2
      obtain ⟨e1, e2, e3, e4⟩ := hchk2
      obtain rfl := nbeq e1
      obtain ⟨q1, q2, q3, q4, q5⟩ := okC e3
      clear hrun
      obtain ⟨as, r, hst, hal, hcs, hca, hrun2⟩ := tkm_s hrunB
      clear hrunB
      obtain ⟨b, tl, rfl, hrun⟩ := hdR_s hrun2
      have e2 : ((mi M).1, ix, ax a 0, 2) ∈ ctab ∨ ((mi M).1, ix, ax a 0, 4) ∈ ctab := e2.imp in4_mem in4_mem
      have hz : ax a 0 ∈ specM ∧ isSt (ax a 0) statM = false ∧ (yM (ax a 0)).name = "<init>" ∧ (mi (ax a 0)).2.2.2.2.1 = none := by
        rcases e2 with z | z <;> (have hz := ct _ z; unfold chkE at hz; simpa using hz)
      obtain ⟨z1, z2, z3, z4⟩ := hz
      · have hgood : CallGood (ax a 0) (.ref b :: tl) := ⟨q4, q5, by rw [q3]; exact hca⟩
        have hst2 : st = tl.reverse ++ .ref b :: r := by rw [hst]; simp
        subst hst2
        obtain ⟨⟨v2, h2⟩, hr2, hrun⟩ := callM _ _ _ _ hrun
        obtain ⟨rfl, hrun⟩ := rV_s hrun
        obtain ⟨c1, c2⟩ := cont _ _ _ _ _ hgood hr2
        obtain ⟨k1, k2⟩ := kont _ _ _ _ hrun
        have k1 : h2.1 ≤ h1.1 := k1
        have m1 := szs_le (gL G) k1
        exact ⟨Nat.le_trans c1 k1, w_spec hx hb hml hts hown hK hs h5 e2 z1 z2 z3 z4 q1 (by rw [q2, hal]) hcs c1 (by omega) (by omega) c2 hd k2⟩
  case ireturn =>
    obtain ⟨x, rfl, hrun⟩ := r1I_s hrun
    obtain ⟨hok, hrun⟩ := bif_s hrun
    cases hrun
    refine ⟨Nat.le_refl _, hend pc ls _ hmem (Or.inl ⟨rfl, x, rfl, ?_⟩)⟩
    rcases Bool.or_eq_true _ _ ▸ hok with z | z
    · exact Or.inl (nbeq z)
    · exact Or.inr z
  case lreturn =>
    obtain ⟨x, rfl, hrun⟩ := r1J_s hrun
    cases hrun
    exact ⟨Nat.le_refl _, hend pc ls _ hmem (Or.inr (Or.inl ⟨rfl, _, rfl⟩))⟩
  case areturn =>
    rcases r1O_s hrun with ⟨rfl, hrun⟩ | ⟨x, rfl, hrun⟩
    · cases hrun
      exact ⟨Nat.le_refl _, hend pc ls _ hmem (Or.inr (Or.inr (Or.inl ⟨rfl, Or.inl rfl⟩)))⟩
    · cases hrun
      exact ⟨Nat.le_refl _, hend pc ls _ hmem (Or.inr (Or.inr (Or.inl ⟨rfl, Or.inr ⟨_, rfl⟩⟩)))⟩
  case return_ =>
    obtain ⟨rfl, hrun⟩ := r0_s hrun
    cases hrun
    exact ⟨Nat.le_refl _, hend pc ls _ hmem (Or.inr (Or.inr (Or.inr ⟨rfl, rfl⟩)))⟩
  all_goals (have hz : (none : Option (Option Value × Hp S)) = some (v, h1) := hrun; cases hz)
end STEP
