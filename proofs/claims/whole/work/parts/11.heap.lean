/-! rows of the heap on the machine's states -/
theorem in_WLa0 {w : Cond} (h : w ∈ WLa0) : w ∈ WL := by
  unfold WL
  simp only [List.mem_append, h, true_or, or_true]
theorem in_WLa1 {w : Cond} (h : w ∈ WLa1) : w ∈ WL := by
  unfold WL
  simp only [List.mem_append, h, true_or, or_true]
theorem in_WLa2 {w : Cond} (h : w ∈ WLa2) : w ∈ WL := by
  unfold WL
  simp only [List.mem_append, h, true_or, or_true]
theorem in_WLa3 {w : Cond} (h : w ∈ WLa3) : w ∈ WL := by
  unfold WL
  simp only [List.mem_append, h, true_or, or_true]
theorem in_WLa4 {w : Cond} (h : w ∈ WLa4) : w ∈ WL := by
  unfold WL
  simp only [List.mem_append, h, true_or, or_true]
theorem in_WLa5 {w : Cond} (h : w ∈ WLa5) : w ∈ WL := by
  unfold WL
  simp only [List.mem_append, h, true_or, or_true]
theorem in_WLa6 {w : Cond} (h : w ∈ WLa6) : w ∈ WL := by
  unfold WL
  simp only [List.mem_append, h, true_or, or_true]
theorem in_WLb {w : Cond} (h : w ∈ WLb) : w ∈ WL := by
  unfold WL
  simp only [List.mem_append, h, true_or, or_true]
theorem in_WLc {w : Cond} (h : w ∈ WLc) : w ∈ WL := by
  unfold WL
  simp only [List.mem_append, h, true_or, or_true]
theorem in_WLd {w : Cond} (h : w ∈ WLd) : w ∈ WL := by
  unfold WL
  simp only [List.mem_append, h, true_or, or_true]
theorem in_WLe {w : Cond} (h : w ∈ WLe) : w ∈ WL := by
  unfold WL
  simp only [List.mem_append, h, true_or, or_true]
theorem in_WLf {w : Cond} (h : w ∈ WLf) : w ∈ WL := by
  unfold WL
  simp only [List.mem_append, h, true_or, or_true]
theorem in_WLg {w : Cond} (h : w ∈ WLg) : w ∈ WL := by
  unfold WL
  simp only [List.mem_append, h, true_or, or_true]
theorem in_WLh {w : Cond} (h : w ∈ WLh) : w ∈ WL := by
  unfold WL
  simp only [List.mem_append, h, true_or, or_true]
theorem in_WLi {w : Cond} (h : w ∈ WLi) : w ∈ WL := by
  unfold WL
  simp only [List.mem_append, h, true_or, or_true]
theorem in_WLj {w : Cond} (h : w ∈ WLj) : w ∈ WL := by
  unfold WL
  simp only [List.mem_append, h, true_or, or_true]
theorem in_WLk {w : Cond} (h : w ∈ WLk) : w ∈ WL := by
  unfold WL
  simp only [List.mem_append, h, true_or, or_true]
theorem in_WLx {w : Cond} (h : w ∈ WLx) : w ∈ WL := by
  unfold WL
  simp only [List.mem_append, h, true_or, or_true]
theorem in_WLl {w : Cond} (h : w ∈ WLl) : w ∈ WL := by
  unfold WL
  simp only [List.mem_append, h, true_or, or_true]
theorem in_WLm {w : Cond} (h : w ∈ WLm) : w ∈ WL := by
  unfold WL
  simp only [List.mem_append, h, true_or, or_true]
theorem clT_at {ci : Nat} (h : ci < 13) : vwCl[ci]? = some (clT ci) := by
  match ci, h with
  | 0, _ => rfl
  | 1, _ => rfl
  | 2, _ => rfl
  | 3, _ => rfl
  | 4, _ => rfl
  | 5, _ => rfl
  | 6, _ => rfl
  | 7, _ => rfl
  | 8, _ => rfl
  | 9, _ => rfl
  | 10, _ => rfl
  | 11, _ => rfl
  | 12, _ => rfl
  | n + 13, h => exact absurd h (by omega)
theorem clI {ci : Nat} (h : ci < 13) : ∀ w ∈ u_ws (clT ci).1 (clT ci).2.1 (clT ci).2.2, w ∈ WL := fun _ hw => in_WLi (List.mem_flatMap.mpr ⟨ci, List.mem_range.mpr h, hw⟩)
def tgO (t : FieldType) : Nat := match t with
  | .int => 0
  | .long => 1
  | .boolean => 3
  | .object _ => 2
  | .array _ => 2
  | _ => 9
set_option maxRecDepth 100000 in
theorem clF {ci : Nat} (h : ci < 13) : ∃ ty0 : Nat → FieldType, (∀ k, k < (clT ci).2.2 → parseFieldDescriptor ((clT ci).2.1 k).2.2.1 = some (ty0 k)) ∧ (∀ a, a < (clT ci).2.2 → ∀ b, b < (clT ci).2.2 → a ≠ b → ((clT ci).2.1 a).2.1 ≠ ((clT ci).2.1 b).2.1) ∧ (∀ k, k < (clT ci).2.2 → gn (gll ftT ci) k = tgO (ty0 k)) ∧ ∀ k, k < (clT ci).2.2 → ((clT ci).2.1 k).1 = own ci := by
  match ci, h with
  | 0, _ => exact ⟨tyX0, tyX0_ok, nmX0, by decide +kernel, by decide +kernel⟩
  | 1, _ => exact ⟨tyX1, tyX1_ok, nmX1, by decide +kernel, by decide +kernel⟩
  | 2, _ => exact ⟨tyX2, tyX2_ok, nmX2, by decide +kernel, by decide +kernel⟩
  | 3, _ => exact ⟨tyX3, tyX3_ok, nmX3, by decide +kernel, by decide +kernel⟩
  | 4, _ => exact ⟨tyX4, tyX4_ok, nmX4, by decide +kernel, by decide +kernel⟩
  | 5, _ => exact ⟨tyX5, tyX5_ok, nmX5, by decide +kernel, by decide +kernel⟩
  | 6, _ => exact ⟨tyX6, tyX6_ok, nmX6, by decide +kernel, by decide +kernel⟩
  | 7, _ => exact ⟨tyX7, tyX7_ok, nmX7, by decide +kernel, by decide +kernel⟩
  | 8, _ => exact ⟨tyX8, tyX8_ok, nmX8, by decide +kernel, by decide +kernel⟩
  | 9, _ => exact ⟨tyX9, tyX9_ok, nmX9, by decide +kernel, by decide +kernel⟩
  | 10, _ => exact ⟨tyX10, tyX10_ok, nmX10, by decide +kernel, by decide +kernel⟩
  | 11, _ => exact ⟨tyX11, tyX11_ok, nmX11, by decide +kernel, by decide +kernel⟩
  | 12, _ => exact ⟨tyX12, tyX12_ok, nmX12, by decide +kernel, by decide +kernel⟩
  | n + 13, h => exact absurd h (by omega)
theorem upR_self (I : Nat → Nat → Int32) (a : Nat) (f : Nat → Int32) : upR I a f a = f := if_pos rfl
theorem upR_ne (I : Nat → Nat → Int32) {a b : Nat} (f : Nat → Int32) (h : b ≠ a) : upR I a f b = I b := if_neg h
theorem W_size {p : Program} {l : Launch} {e : Env} {R : Room} {s : State} {m : MethodId} {args : Array Value} {below : List Frame} {meth : Method} {c : Code} {H : Heap} {locs : List Loc} {cells slots : Nat} {Q : State → Prop} {g : JFrame}
    (k : H.size ≤ s.heap.size + cells → W p l e R s m args below meth c H locs cells slots Q g) : W p l e R s m args below meth c H locs cells slots Q g := fun T hT X => k (by rw [← hT]; exact X.same.2.2.1) T hT X
theorem csum_eq (G : Gx) : ∀ r : List Value, ((r.map (phv G)).map fun v => v.category).sum = csum r
  | [] => rfl
  | v :: r => by
    simp only [List.map_cons, List.sum_cons]
    rw [csum_eq G r, phv_cat]
    rfl
section WH
variable {S : Type} {rd : S → Nat → Nat → Option Nat} {G : Gx} {p : Program} {l : Launch} {e : Env} {R : Room} {s : State} {m : MethodId} {args : Array Value} {below : List Frame} {meth : Method} {c : Code} {n0 nL : Nat} {Q : State → Prop}
variable {cc : ByteArray} {h : Hp S} {pc : Nat} {ls : LV} {r : List Value} {oc : Nat} {H : Heap} {locs : List Loc}
theorem size_of (hs : s.heap.size + 5 = gB G + n0) (h5 : 5 ≤ n0) (hn : n0 ≤ h.1) (hR : RelH rd G h H) (hS : va_S (AA G) s.heap H locs) (hle : H.size ≤ s.heap.size + (h.1 - n0)) : H.size + 5 = gB G + h.1 := by
  have h1 := hS.1
  by_cases e : h.1 = n0
  · omega
  · have hg := wld_get (rd := rd) (G := G) (h := h) (a := h.1 - 1) (by omega) (by omega)
    have hl := (hR.2.2.1 _ _ hg).lt
    rw [phi5 (by omega)] at hl
    omega
theorem cellE_0 {a : Nat} (ht : (shT (gL G) a).1 = 0) : cellE rd G h a = .inl (gI G, (shT (gL G) a).2, .inl (h.2.1 a)) := by unfold cellE; rw [ht]
theorem cellE_1 {a : Nat} (ht : (shT (gL G) a).1 = 1) : cellE rd G h a = .inl (gZ G, (shT (gL G) a).2, .inl (h.2.1 a)) := by unfold cellE; rw [ht]
theorem cellE_2 {a : Nat} (ht : (shT (gL G) a).1 = 2) : cellE rd G h a = .inl (gN G, (shT (gL G) a).2, .inr (.inr (.inr (.inr (fun i => (rd h.2.2.2 a i).map (phi G)))))) := by unfold cellE; rw [ht]
theorem cellE_3 {a : Nat} (ht : (shT (gL G) a).1 = 3) : cellE rd G h a = .inl (gA G, (shT (gL G) a).2, .inr (.inr (.inr (.inr (fun i => (rd h.2.2.2 a i).map (phi G)))))) := by unfold cellE; rw [ht]
theorem cellE_4 {a t : Nat} (ht : (shT (gL G) a).1 = 4 + t) : cellE rd G h a = .inr (t, fds rd G h t a) := by unfold cellE; rw [ht, Nat.add_comm 4 t]
theorem fds_len {t a : Nat} : (fds rd G h t a).length = (clT t).2.2 := by unfold fds; simp
theorem fds_get {t a k : Nat} (hk : k < (clT t).2.2) : (fds rd G h t a)[k]? = some (fld rd G h t a k) := by
  unfold fds
  rw [List.getElem?_map, List.getElem?_range hk]
  rfl
theorem fds_set {h' : Hp S} {t a k : Nat} {v : Value} (hk : k < (clT t).2.2) (h1 : fld rd G h' t a k = v) (h2 : ∀ j, j ≠ k → fld rd G h' t a j = fld rd G h t a j) : fds rd G h' t a = (fds rd G h t a).set k v := by
  apply List.ext_getElem?
  intro j
  rw [List.getElem?_set]
  by_cases hj : j < (clT t).2.2
  · rw [fds_get hj]
    by_cases e : k = j
    · subst e
      rw [if_pos rfl, if_pos (by rw [fds_len]; exact hj), h1]
    · rw [if_neg e, fds_get hj, h2 j (fun q => e q.symm)]
  · have z1 : (fds rd G h' t a)[j]? = none := List.getElem?_eq_none (by rw [fds_len]; omega)
    have z2 : (fds rd G h t a)[j]? = none := List.getElem?_eq_none (by rw [fds_len]; omega)
    rw [z1, z2, if_neg (by omega)]
theorem w_get (hx : p.tables.exec = Jvm.exec) (hb : c.code = cc) (hts : ∀ w ∈ WL, w.before args s = true) (hown : s.vm.findClass (own oc) = some m.cls) (hK : KU G s) {ix ci k a : Nat} (hf : (oc, ix, ci, k) ∈ ftab) (hci : ci < 13) (hk : k < (clT ci).2.2) (ha : (shT (gL G) a).1 = 4 + ci) (hal : a < h.1)
    (hd : decode cc pc = .ok (.getfield ix, 3)) {v : Value} (hv : fld rd G h ci a k = phv G v) (kk : Wst rd G p l e R s m args below meth c n0 nL Q h (pc + 3) ls (v :: r)) : Wst rd G p l e R s m args below meth c n0 nL Q h pc ls (.ref a :: r) := by
  intro hn H locs cls hR hS hL
  have h5 := sh5 (L := gL G) (a := a) (by rw [ha]; omega)
  have he : (wld rd G h)[a - 5]? = some (phi G a, .inr (ci, fds rd G h ci a)) := by rw [wld_get h5 hal, cellE_4 ha]
  exact va_get (D := gD G) (cl := vwCl) (C := (clT ci).1) (T := (clT ci).2.1) (N := (clT ci).2.2) (own := own oc) (ref := ((clT ci).2.1 k).1) hx hb hts (clI hci) hown hK.1 hR.2.2.1 (a - 5) he (clT_at hci) k hk (hts _ (in_WLb (List.mem_map.mpr ⟨_, hf, rfl⟩))) (fun _ q => q) (fds_get hk) hd
    (by rw [hv]; exact kk hn H locs cls hR hS hL)
theorem w_put (hx : p.tables.exec = Jvm.exec) (hb : c.code = cc) (hts : ∀ w ∈ WL, w.before args s = true) (hown : s.vm.findClass (own oc) = some m.cls) (hK : KU G s) {ix ci k a : Nat} (hf : (oc, ix, ci, k) ∈ ftab) (hci : ci < 13) (hk : k < (clT ci).2.2) (ha : (shT (gL G) a).1 = 4 + ci) (hal : a < h.1)
    (hfin : ((clT ci).2.1 k).2.2.2 = false ∨ (meth.name = "<init>" ∧ ci = oc)) (hd : decode cc pc = .ok (.putfield ix, 3)) {v : Value} (hv : ∀ ty : FieldType, gn (gll ftT ci) k = tgO ty → narrow ty (phv G v) = phv G v ∧ fits ty (phv G v) = true) {h' : Hp S} (hn' : h'.1 = h.1) (ho : ∀ b, b ≠ a → cellE rd G h' b = cellE rd G h b) (hw : fds rd G h' ci a = (fds rd G h ci a).set k (phv G v)) (hz : zer rd h → zer rd h')
    (kk : Wst rd G p l e R s m args below meth c n0 nL Q h' (pc + 3) ls r) : Wst rd G p l e R s m args below meth c n0 nL Q h pc ls (v :: .ref a :: r) := by
  intro hn H locs cls hR hS hL
  have h5 := sh5 (L := gL G) (a := a) (by rw [ha]; omega)
  have he : (wld rd G h)[a - 5]? = some (phi G a, .inr (ci, fds rd G h ci a)) := by rw [wld_get h5 hal, cellE_4 ha]
  obtain ⟨ty0, q1, q2, q3, q4⟩ := clF hci
  obtain ⟨v1, v2⟩ := hv (ty0 k) (q3 k hk)
  have hs : (wld rd G h).set (a - 5) (phi G a, .inr (ci, (fds rd G h ci a).set k (phv G v))) = wld rd G h' := by
    rw [← wld_set h5 hal hn' ho, cellE_4 ha, hw]
  have fin : ∀ (H1 : Heap) (locs1 : List Loc), va_P (gD G) vwCl ((wld rd G h).set (a - 5) (phi G a, .inr (ci, (fds rd G h ci a).set k (phv G v)))) H1 → va_D (AA G) ((wld rd G h).set (a - 5) (phi G a, .inr (ci, (fds rd G h ci a).set k (phv G v)))) → va_S (AA G) s.heap H1 locs1 →
      W p l e R s m args below meth c H1 locs1 (h.1 - n0) (szs (gL G) h.1 - szs (gL G) n0) Q (F0 m (pc + 3) cls (r.map (phv G))) := by
    intro H1 locs1 hP1 _ hS1
    rw [hs] at hP1
    have := kk (by rw [hn']; exact hn) H1 locs1 cls ⟨by rw [hn']; exact hR.1, by rw [hn']; exact hR.2.1, hP1, hz hR.2.2.2⟩ hS1 hL
    rw [hn'] at this
    exact this
  rcases hfin with hf0 | ⟨hf1, hf2⟩
  · exact va_put (D := gD G) (cl := vwCl) (C := (clT ci).1) (T := (clT ci).2.1) (N := (clT ci).2.2) (own := own oc) (ref := ((clT ci).2.1 k).1) hx hb hts (clI hci) ty0 q1 q2 hown hK.1 hR.2.2.1 (wld_D G h) hS (a - 5) he (clT_at hci) k hk (hts _ (in_WLb (List.mem_map.mpr ⟨_, hf, rfl⟩))) (fun _ q => q) hf0 (q1 k hk) v1 v2 (by rw [fds_len]; exact hk) hd fin
  · by_cases hf0 : ((clT ci).2.1 k).2.2.2 = false
    · exact va_put (D := gD G) (cl := vwCl) (C := (clT ci).1) (T := (clT ci).2.1) (N := (clT ci).2.2) (own := own oc) (ref := ((clT ci).2.1 k).1) hx hb hts (clI hci) ty0 q1 q2 hown hK.1 hR.2.2.1 (wld_D G h) hS (a - 5) he (clT_at hci) k hk (hts _ (in_WLb (List.mem_map.mpr ⟨_, hf, rfl⟩))) (fun _ q => q) hf0 (q1 k hk) v1 v2 (by rw [fds_len]; exact hk) hd fin
    · exact va_putF (D := gD G) (cl := vwCl) (C := (clT ci).1) (T := (clT ci).2.1) (N := (clT ci).2.2) (own := own oc) (ref := ((clT ci).2.1 k).1) hx hb hts (clI hci) ty0 q1 q2 hown hK.1 hR.2.2.1 (wld_D G h) hS (a - 5) he (clT_at hci) k hk (hts _ (in_WLb (List.mem_map.mpr ⟨_, hf, rfl⟩))) (fun _ q => q) (by simpa using hf0) hf1 (by rw [q4 k hk, hf2]) (q1 k hk) v1 v2 (by rw [fds_len]; exact hk) hd fin
theorem cell_I {a : Nat} {f : Nat → Int32} {b : Nat} (hb : b ≠ a) : cellE rd G (hI h a f) b = cellE rd G h b := cellE_eq (upR_ne _ _ hb) rfl (fun _ => rfl)
theorem zer_I {a : Nat} {f : Nat → Int32} (ha : a < h.1) (hz : zer rd h) : zer rd (hI h a f) := by
  intro b hb i
  have hne : b ≠ a := by have : h.1 ≤ b := hb; omega
  have := hz b hb i
  exact ⟨by show upR h.2.1 a f b i = 0; rw [upR_ne _ _ hne]; exact this.1, this.2⟩
theorem w_putI (hx : p.tables.exec = Jvm.exec) (hb : c.code = cc) (hts : ∀ w ∈ WL, w.before args s = true) (hown : s.vm.findClass (own oc) = some m.cls) (hK : KU G s) {ix ci k a : Nat} (hf : (oc, ix, ci, k) ∈ ftab) (hci : ci < 13) (hk : k < (clT ci).2.2) (ha : (shT (gL G) a).1 = 4 + ci) (hal : a < h.1)
    (hfin : ((clT ci).2.1 k).2.2.2 = false ∨ (meth.name = "<init>" ∧ ci = oc)) (hd : decode cc pc = .ok (.putfield ix, 3)) {x : Int32} (htg : gn (gll ftT ci) k = 0 ∨ (gn (gll ftT ci) k = 3 ∧ b01 x = true))
    (kk : Wst rd G p l e R s m args below meth c n0 nL Q (hI h a (upd (h.2.1 a) k x)) (pc + 3) ls r) : Wst rd G p l e R s m args below meth c n0 nL Q h pc ls (.int x :: .ref a :: r) := by
  refine w_put (h' := hI h a (upd (h.2.1 a) k x)) hx hb hts hown hK hf hci hk ha hal hfin hd (v := .int x) (fun ty hty => ?_) rfl (fun b hb => cell_I hb) (fds_set hk ?_ (fun j hj => ?_)) (zer_I hal) kk
  · show narrow ty (.int x) = .int x ∧ fits ty (.int x) = true
    rcases htg with q | ⟨q, q2⟩
    · rw [q] at hty
      cases ty <;> first | (exact ⟨rfl, rfl⟩) | (simp [tgO] at hty)
    · rw [q] at hty
      have hb : x = 0 ∨ x = 1 := by
        unfold b01 at q2
        simpa using q2
      cases ty <;> first | (rcases hb with rfl | rfl <;> decide) | (simp [tgO] at hty)
  · unfold fld
    have e : (hI h a (upd (h.2.1 a) k x)).2.1 a k = x := by
      show upR h.2.1 a (upd (h.2.1 a) k x) a k = x
      rw [upR_self]
      exact if_pos rfl
    rcases htg with q | ⟨q, -⟩
    · rw [q, e]; rfl
    · rw [q, e]; rfl
  · unfold fld
    have e : (hI h a (upd (h.2.1 a) k x)).2.1 a j = h.2.1 a j := by
      show upR h.2.1 a (upd (h.2.1 a) k x) a j = h.2.1 a j
      rw [upR_self]
      exact if_neg hj
    rw [e]
theorem w_putJ (hx : p.tables.exec = Jvm.exec) (hb : c.code = cc) (hts : ∀ w ∈ WL, w.before args s = true) (hown : s.vm.findClass (own oc) = some m.cls) (hK : KU G s) {ix ci k a : Nat} (hf : (oc, ix, ci, k) ∈ ftab) (hci : ci < 13) (hk : k < (clT ci).2.2) (ha : (shT (gL G) a).1 = 4 + ci) (hal : a < h.1)
    (hfin : ((clT ci).2.1 k).2.2.2 = false ∨ (meth.name = "<init>" ∧ ci = oc)) (hd : decode cc pc = .ok (.putfield ix, 3)) {x : Int64} (htg : gn (gll ftT ci) k = 1)
    (kk : Wst rd G p l e R s m args below meth c n0 nL Q (hJ h a k x) (pc + 3) ls r) : Wst rd G p l e R s m args below meth c n0 nL Q h pc ls (.long x :: .ref a :: r) := by
  have ej : ∀ b, b ≠ a → (hJ h a k x).2.2.1 b = h.2.2.1 b := fun b hb => funext fun j => if_neg (fun q => hb q.1)
  refine w_put (h' := hJ h a k x) hx hb hts hown hK hf hci hk ha hal hfin hd (v := .long x) (fun ty hty => ?_) rfl (fun b hb => cellE_eq rfl (ej b hb) (fun _ => rfl)) (fds_set hk ?_ (fun j hj => ?_)) (fun hz b hb i => ?_) kk
  · show narrow ty (.long x) = .long x ∧ fits ty (.long x) = true
    rw [htg] at hty
    cases ty <;> first | (exact ⟨rfl, rfl⟩) | (simp [tgO] at hty)
  · unfold fld
    have e : (hJ h a k x).2.2.1 a k = x := if_pos ⟨rfl, rfl⟩
    rw [htg, e]; rfl
  · unfold fld
    have e : (hJ h a k x).2.2.1 a j = h.2.2.1 a j := if_neg (fun q => hj q.2)
    rw [e]
  · have hne : b ≠ a := by have : h.1 ≤ b := hb; omega
    have := hz b hb i
    exact ⟨this.1, by rw [ej b hne]; exact this.2.1, this.2.2⟩
theorem w_putR (hx : p.tables.exec = Jvm.exec) (hb : c.code = cc) (hts : ∀ w ∈ WL, w.before args s = true) (hown : s.vm.findClass (own oc) = some m.cls) (hK : KU G s) {ix ci k a : Nat} (hf : (oc, ix, ci, k) ∈ ftab) (hci : ci < 13) (hk : k < (clT ci).2.2) (ha : (shT (gL G) a).1 = 4 + ci) (hal : a < h.1)
    (hfin : ((clT ci).2.1 k).2.2.2 = false ∨ (meth.name = "<init>" ∧ ci = oc)) (hd : decode cc pc = .ok (.putfield ix, 3)) {x : Nat} (htg : gn (gll ftT ci) k = 2) {s' : S} (hw : ∀ b j, rd s' b j = if b = a ∧ j = k then some x else rd h.2.2.2 b j)
    (kk : Wst rd G p l e R s m args below meth c n0 nL Q (hR h s') (pc + 3) ls r) : Wst rd G p l e R s m args below meth c n0 nL Q h pc ls (.ref x :: .ref a :: r) := by
  refine w_put (h' := hR h s') hx hb hts hown hK hf hci hk ha hal hfin hd (v := .ref x) (fun ty hty => ?_) rfl (fun b hb => cellE_eq rfl rfl (fun i => ?_)) (fds_set hk ?_ (fun j hj => ?_)) (fun hz b hb i => ?_) kk
  · show narrow ty (.ref (phi G x)) = .ref (phi G x) ∧ fits ty (.ref (phi G x)) = true
    rw [htg] at hty
    cases ty <;> first | (exact ⟨rfl, rfl⟩) | (simp [tgO] at hty)
  · show rd s' b i = _
    rw [hw, if_neg (fun q => hb q.1)]
  · unfold fld
    have e : rd (hR h s').2.2.2 a k = some x := by
      show rd s' a k = _
      rw [hw, if_pos ⟨rfl, rfl⟩]
    rw [htg, e]; rfl
  · unfold fld
    have e : rd (hR h s').2.2.2 a j = rd h.2.2.2 a j := by
      show rd s' a j = _
      rw [hw, if_neg (fun q => hj q.2)]
    rw [e]
  · have hne : b ≠ a := by have : h.1 ≤ b := hb; omega
    have := hz b hb i
    exact ⟨this.1, this.2.1, by show rd s' b i = none; rw [hw, if_neg (fun q => hne q.1)]; exact this.2.2⟩
/-- storing into a row of ints -/
theorem fin_I {a : Nat} {f : Nat → Int32} {va : va_E} (h5 : 5 ≤ a) (hal : a < h.1) (hva : cellE rd G (hI h a f) a = va) {cls : Array Slot} {pc' : Nat} (hn : n0 ≤ h.1) (hR : RelH rd G h H) (hL : LRel G cls nL ls) (kk : Wst rd G p l e R s m args below meth c n0 nL Q (hI h a f) pc' ls r) :
    ∀ (H1 : Heap) (locs1 : List Loc), va_P (gD G) vwCl ((wld rd G h).set (a - 5) (phi G a, va)) H1 → va_D (AA G) ((wld rd G h).set (a - 5) (phi G a, va)) → va_S (AA G) s.heap H1 locs1 → W p l e R s m args below meth c H1 locs1 (h.1 - n0) (szs (gL G) h.1 - szs (gL G) n0) Q (F0 m pc' cls (r.map (phv G))) := by
  intro H1 locs1 hP1 _ hS1
  rw [← hva, wld_set (h' := hI h a f) h5 hal rfl (fun b hb => cell_I hb)] at hP1
  exact kk hn H1 locs1 cls ⟨hR.1, hR.2.1, hP1, zer_I hal hR.2.2.2⟩ hS1 hL
theorem w_iald (hx : p.tables.exec = Jvm.exec) (hb : c.code = cc) (hK : KU G s) {a : Nat} {i : Int32} (ha : (shT (gL G) a).1 = 0) (hal : a < h.1) (hin : ¬ (i < 0 ∨ (shT (gL G) a).2 ≤ i.toNatClampNeg)) (hd : decode cc pc = .ok (.iaload, 1)) (kk : Wst rd G p l e R s m args below meth c n0 nL Q h (pc + 1) ls (.int (rdI (gX G) h.2.1 a i.toNatClampNeg) :: r)) : Wst rd G p l e R s m args below meth c n0 nL Q h pc ls (.int i :: .ref a :: r) := by
  intro hn H locs cls hR hS hL
  by_cases h5 : a < 5
  · have e : rdI (gX G) h.2.1 a i.toNatClampNeg = stv (gX G) a i.toNatClampNeg := by
      unfold rdI
      rw [Nat.blt_eq.mpr h5]
      rfl
    have := va_ti (f := fun i => .int (stv (gX G) a i)) hx hb (hK.2.2.2.2.1 a h5) hS hin rfl hd (kk hn H locs cls hR hS hL |> fun q => by rw [e] at q; exact q)
    rw [← phi_lt h5] at this
    exact this
  · have e : rdI (gX G) h.2.1 a i.toNatClampNeg = h.2.1 a i.toNatClampNeg := by
      unfold rdI
      rw [show Nat.blt a 5 = false from by
        cases hq : Nat.blt a 5
        · rfl
        · exact absurd (Nat.blt_eq.mp hq) h5]
      rfl
    rw [e] at kk
    exact va_iald (D := gD G) (cl := vwCl) hx hb hK.1 hR.2.2.1 (a - 5) 0 (by rw [wld_get (by omega) hal, cellE_0 ha]) rfl hin hd (kk hn H locs cls hR hS hL)
theorem w_bald (hx : p.tables.exec = Jvm.exec) (hb : c.code = cc) (hK : KU G s) {a : Nat} {i : Int32} (ha : (shT (gL G) a).1 = 1) (hal : a < h.1) (hin : ¬ (i < 0 ∨ (shT (gL G) a).2 ≤ i.toNatClampNeg)) (hd : decode cc pc = .ok (.baload, 1)) (kk : Wst rd G p l e R s m args below meth c n0 nL Q h (pc + 1) ls (.int (h.2.1 a i.toNatClampNeg) :: r)) : Wst rd G p l e R s m args below meth c n0 nL Q h pc ls (.int i :: .ref a :: r) := by
  intro hn H locs cls hR hS hL
  have h5 := sh5 (L := gL G) (a := a) (by rw [ha]; omega)
  exact va_zald (D := gD G) (cl := vwCl) hx hb hK.1 hR.2.2.1 (a - 5) 1 (by rw [wld_get h5 hal, cellE_1 ha]) rfl hin hd (kk hn H locs cls hR hS hL)
theorem va_rf_phv {o : Option Nat} {v : Value} (h : (o = none ∧ v = .null) ∨ ∃ x, o = some x ∧ v = .ref x) : va_rf (o.map (phi G)) = phv G v := by
  rcases h with ⟨rfl, rfl⟩ | ⟨x, rfl, rfl⟩ <;> rfl
theorem w_aald (hx : p.tables.exec = Jvm.exec) (hb : c.code = cc) (hK : KU G s) {a : Nat} {i : Int32} (ha : (shT (gL G) a).1 = 2 ∨ (shT (gL G) a).1 = 3) (hal : a < h.1) (hin : ¬ (i < 0 ∨ (shT (gL G) a).2 ≤ i.toNatClampNeg)) (hd : decode cc pc = .ok (.aaload, 1)) {v : Value}
    (hv : (rd h.2.2.2 a i.toNatClampNeg = none ∧ v = .null) ∨ ∃ x, rd h.2.2.2 a i.toNatClampNeg = some x ∧ v = .ref x) (kk : Wst rd G p l e R s m args below meth c n0 nL Q h (pc + 1) ls (v :: r)) : Wst rd G p l e R s m args below meth c n0 nL Q h pc ls (.int i :: .ref a :: r) := by
  intro hn H locs cls hR hS hL
  have h5 := sh5 (L := gL G) (a := a) (by rcases ha with q | q <;> rw [q] <;> omega)
  have kv := kk hn H locs cls hR hS hL
  have ev := va_rf_phv (G := G) hv
  rcases ha with q | q
  · refine va_aldq (D := gD G) (cl := vwCl) (C := "DryLand$Line") (f := fun i => (rd h.2.2.2 a i).map (phi G)) hx hb hK.1 hR.2.2.1 (a - 5) 2 (by rw [wld_get h5 hal, cellE_2 q]) rfl hin hd ?_
    rw [ev]
    exact kv
  · have hc : H[phi G a]? = some (vp_cell (gA G) ((shT (gL G) a).2, .inr (.inr (.inr (.inr (fun i => (rd h.2.2.2 a i).map (phi G))))))) := by
      have := hR.2.2.1 (a - 5) _ (wld_get h5 hal)
      rw [cellE_3 q] at this
      exact this
    have hlt : i.toNatClampNeg < (shT (gL G) a).2 := Nat.not_le.mp fun q => hin (Or.inr q)
    refine W.aald (v := phv G v) (ty := .array .int) hx hb hc ((hK.1.2 3 _ rfl).1 _ (fun j => va_rf ((rd h.2.2.2 a j).map (phi G)))) rfl (fun q => by cases q) (by show ¬ (i < 0 ∨ (arrV _ _ _).slots.size ≤ _); rw [arrV_size]; exact hin) (by show (arrV _ _ _).slots[_]? = _; rw [arrV_read _ _ hlt, ev]) rfl rfl hd kv
theorem w_iast (hx : p.tables.exec = Jvm.exec) (hb : c.code = cc) (hK : KU G s) {a : Nat} {i x : Int32} (ha : (shT (gL G) a).1 = 0) (h5 : 5 ≤ a) (hal : a < h.1) (hin : ¬ (i < 0 ∨ (shT (gL G) a).2 ≤ i.toNatClampNeg)) (hd : decode cc pc = .ok (.iastore, 1)) (kk : Wst rd G p l e R s m args below meth c n0 nL Q (hI h a (upd (h.2.1 a) i.toNatClampNeg x)) (pc + 1) ls r) : Wst rd G p l e R s m args below meth c n0 nL Q h pc ls (.int x :: .int i :: .ref a :: r) := by
  intro hn H locs cls hR hS hL
  exact va_iast (D := gD G) (cl := vwCl) hx hb hK.1 hR.2.2.1 (wld_D G h) hS (a - 5) 0 (by rw [wld_get h5 hal, cellE_0 ha]) rfl hin hd (fin_I h5 hal (by rw [cellE_0 ha]; show Sum.inl (gI G, (shT (gL G) a).2, Sum.inl (upR h.2.1 a _ a)) = _; rw [upR_self]) hn hR hL kk)
theorem w_bast (hx : p.tables.exec = Jvm.exec) (hb : c.code = cc) (hK : KU G s) {a : Nat} {i x : Int32} (ha : (shT (gL G) a).1 = 1) (hal : a < h.1) (hin : ¬ (i < 0 ∨ (shT (gL G) a).2 ≤ i.toNatClampNeg)) (hd : decode cc pc = .ok (.bastore, 1)) (kk : Wst rd G p l e R s m args below meth c n0 nL Q (hI h a (upd (h.2.1 a) i.toNatClampNeg (vp_nar .boolean x))) (pc + 1) ls r) : Wst rd G p l e R s m args below meth c n0 nL Q h pc ls (.int x :: .int i :: .ref a :: r) := by
  intro hn H locs cls hR hS hL
  have h5 := sh5 (L := gL G) (a := a) (by rw [ha]; omega)
  exact va_zast (D := gD G) (cl := vwCl) hx hb hK.1 hR.2.2.1 (wld_D G h) hS (a - 5) 1 (by rw [wld_get h5 hal, cellE_1 ha]) rfl hin hd (fin_I h5 hal (by rw [cellE_1 ha]; show Sum.inl (gZ G, (shT (gL G) a).2, Sum.inl (upR h.2.1 a _ a)) = _; rw [upR_self]) hn hR hL kk)
theorem w_aast (hx : p.tables.exec = Jvm.exec) (hb : c.code = cc) (hK : KU G s) {a v : Nat} {i : Int32} (ha : (shT (gL G) a).1 = 2) (hal : a < h.1) (hv : (shT (gL G) v).1 = 7) (hvl : v < h.1) (hin : ¬ (i < 0 ∨ (shT (gL G) a).2 ≤ i.toNatClampNeg)) (hd : decode cc pc = .ok (.aastore, 1)) {s' : S} (hw : ∀ b j, rd s' b j = if b = a ∧ j = i.toNatClampNeg then some v else rd h.2.2.2 b j)
    (kk : Wst rd G p l e R s m args below meth c n0 nL Q (hR h s') (pc + 1) ls r) : Wst rd G p l e R s m args below meth c n0 nL Q h pc ls (.ref v :: .int i :: .ref a :: r) := by
  intro hn H locs cls hR' hS hL
  have h5 := sh5 (L := gL G) (a := a) (by rw [ha]; omega)
  have h5v := sh5 (L := gL G) (a := v) (by rw [hv]; omega)
  have ho : ∀ b, b ≠ a → cellE rd G (hR h s') b = cellE rd G h b := fun b hb => cellE_eq rfl rfl (fun i => by show rd s' b i = _; rw [hw, if_neg (fun q => hb q.1)])
  refine va_astq (D := gD G) (cl := vwCl) (r := clT 3) hx hb hK.1 hR'.2.2.1 (wld_D G h) hS (a - 5) 2 (v - 5) 3 (f := fun i => (rd h.2.2.2 a i).map (phi G)) (vs := fds rd G h 3 v) (by rw [wld_get h5 hal, cellE_2 ha]) rfl (by rw [wld_get h5v hvl, cellE_4 (t := 3) hv]) (clT_at (by omega)) hin hd (fun H1 locs1 hP1 _ hS1 => ?_)
  have e : cellE rd G (hR h s') a = .inl (gN G, (shT (gL G) a).2, .inr (.inr (.inr (.inr (va_up (fun i => (rd h.2.2.2 a i).map (phi G)) i.toNatClampNeg (some (phi G v))))))) := by
    rw [cellE_2 ha]
    congr 7
    funext j
    show (rd s' a j).map (phi G) = va_up _ _ _ j
    rw [hw]
    unfold va_up
    by_cases q : j = i.toNatClampNeg
    · rw [if_pos ⟨rfl, q⟩, if_pos q]; rfl
    · rw [if_neg (fun z => q z.2), if_neg q]
  rw [← e, wld_set h5 hal (h' := hR h s') rfl ho] at hP1
  refine kk hn H1 locs1 cls ⟨hR'.1, hR'.2.1, hP1, fun b hb i => ?_⟩ hS1 hL
  have hne : b ≠ a := by have : h.1 ≤ b := hb; omega
  have := hR'.2.2.2 b hb i
  exact ⟨this.1, this.2.1, by show rd s' b i = none; rw [hw, if_neg (fun q => hne q.1)]; exact this.2.2⟩
theorem w_alen (hx : p.tables.exec = Jvm.exec) (hb : c.code = cc) (hK : KU G s) {a : Nat} (ha : (shT (gL G) a).1 ≤ 3) (hal : a < h.1) (hd : decode cc pc = .ok (.arraylength, 1)) (kk : Wst rd G p l e R s m args below meth c n0 nL Q h (pc + 1) ls (.int (Int32.ofNat (shT (gL G) a).2) :: r)) : Wst rd G p l e R s m args below meth c n0 nL Q h pc ls (.ref a :: r) := by
  intro hn H locs cls hR hS hL
  have kv := kk hn H locs cls hR hS hL
  by_cases h5 : a < 5
  · have := va_tlen (f := fun i => .int (stv (gX G) a i)) hx hb (hK.2.2.2.2.1 a h5) hS rfl hd kv
    rw [← phi_lt h5] at this
    exact this
  · have hg := wld_get (rd := rd) (G := G) (h := h) (a := a) (by omega) hal
    have hq : (shT (gL G) a).1 = 0 ∨ (shT (gL G) a).1 = 1 ∨ (shT (gL G) a).1 = 2 ∨ (shT (gL G) a).1 = 3 := by omega
    rcases hq with q | q | q | q
    · exact va_alen (D := gD G) (cl := vwCl) (x := ((shT (gL G) a).2, .inl (h.2.1 a))) hx hb hK.1 hR.2.2.1 (a - 5) 0 (hg.trans (by rw [cellE_0 q])) rfl rfl hd kv
    · exact va_alen (D := gD G) (cl := vwCl) (x := ((shT (gL G) a).2, .inl (h.2.1 a))) hx hb hK.1 hR.2.2.1 (a - 5) 1 (hg.trans (by rw [cellE_1 q])) rfl rfl hd kv
    · exact va_alen (D := gD G) (cl := vwCl) (x := ((shT (gL G) a).2, .inr (.inr (.inr (.inr (fun i => (rd h.2.2.2 a i).map (phi G))))))) hx hb hK.1 hR.2.2.1 (a - 5) 2 (hg.trans (by rw [cellE_2 q])) rfl rfl hd kv
    · exact va_alen (D := gD G) (cl := vwCl) (x := ((shT (gL G) a).2, .inr (.inr (.inr (.inr (fun i => (rd h.2.2.2 a i).map (phi G))))))) hx hb hK.1 hR.2.2.1 (a - 5) 3 (hg.trans (by rw [cellE_3 q])) rfl rfl hd kv
theorem w_gets (hx : p.tables.exec = Jvm.exec) (hb : c.code = cc) (hts : ∀ w ∈ WL, w.before args s = true) (hown : s.vm.findClass (own oc) = some m.cls) (hK : KU G s) {ix k : Nat} (hf : (oc, ix, k) ∈ stab) (h0 : 0 < k) (h5 : k < 5) (hd : decode cc pc = .ok (.getstatic ix, 3)) (kk : Wst rd G p l e R s m args below meth c n0 nL Q h (pc + 3) ls (.ref k :: r)) : Wst rd G p l e R s m args below meth c n0 nL Q h pc ls r := by
  intro hn H locs cls hR hS hL
  have kv := kk hn H locs cls hR hS hL
  refine va_gets hx hb (hK.2.2.2.2.2 k h0 h5) hS hown (hts (.fieldLink (own oc) ix "DryLand$Reader" (statN k) "[I") (in_WLm ?_)) (fun _ q => q) hd ?_
  · unfold WLm
    exact List.mem_append_right _ (List.mem_append_right _ (List.mem_append_right _ (List.mem_map.mpr ⟨_, hf, rfl⟩)))
  · rw [← phi_lt h5]
    exact kv
theorem w_copy (hx : p.tables.exec = Jvm.exec) (hb : c.code = cc) (hml : c.maxLocals = nL) (hts : ∀ w ∈ WL, w.before args s = true) (hown : s.vm.findClass (own oc) = some m.cls) (hK : KU G s) (hF : 1 ≤ R.frames) (hLc : 26 ≤ R.locals) {ix a a0 : Nat} {n dp sp : Int32} (hf : (oc, ix) ∈ ytab) (ha : (shT (gL G) a).1 = 0) (h5 : 5 ≤ a) (hal : a < h.1) (ha0 : (shT (gL G) a0).1 = 0) (h50 : 5 ≤ a0) (hal0 : a0 < h.1) (hcs : csum r ≤ 8)
    (hq : ¬ ((sp < 0 ∨ dp < 0 ∨ n < 0) ∨ (shT (gL G) a0).2 < sp.toNatClampNeg + n.toNatClampNeg ∨ (shT (gL G) a).2 < dp.toNatClampNeg + n.toNatClampNeg)) (hd : decode cc pc = .ok (.invokestatic ix, 3)) (kk : Wst rd G p l e R s m args below meth c n0 nL Q (hI h a (va_cpy (h.2.1 a0) (h.2.1 a) sp.toNatClampNeg dp.toNatClampNeg n.toNatClampNeg)) (pc + 3) ls r) : Wst rd G p l e R s m args below meth c n0 nL Q h pc ls (.int n :: .int dp :: .ref a :: .int sp :: .ref a0 :: r) := by
  intro hn H locs cls hR hS hL
  have q1 : ¬ sp < 0 := fun z => hq (Or.inl (Or.inl z))
  have q2 : ¬ dp < 0 := fun z => hq (Or.inl (Or.inr (Or.inl z)))
  have q3 : ¬ n < 0 := fun z => hq (Or.inl (Or.inr (Or.inr z)))
  have q4 : sp.toNatClampNeg + n.toNatClampNeg ≤ (shT (gL G) a0).2 := Nat.not_lt.mp fun z => hq (Or.inr (Or.inl z))
  have q5 : dp.toNatClampNeg + n.toNatClampNeg ≤ (shT (gL G) a).2 := Nat.not_lt.mp fun z => hq (Or.inr (Or.inr z))
  have w1 : Cond.methodLink (own oc) ix arraycopyName ∈ WL := in_WLk (List.mem_append_left _ (List.mem_map.mpr ⟨_, hf, rfl⟩))
  have w2 : Cond.native arraycopyName ∈ WL := in_WLk (List.mem_append_right _ List.mem_cons_self)
  have w3 : Cond.static arraycopyName ∈ WL := in_WLk (List.mem_append_right _ (List.mem_cons_of_mem _ List.mem_cons_self))
  have w4 : Cond.initialized "java/lang/System" ∈ WL := in_WLg (List.mem_map.mpr ⟨_, by decide, rfl⟩)
  exact va_copyi (D := gD G) (cl := vwCl) (ty := .int) hx hb (by rw [hL.1, hml]) hown (hts _ w1) (hts _ w2) (hts _ w3) (hts _ w4) hK.1 hR.2.2.1 (wld_D G h) hS (a0 - 5) (a - 5) 0 0 (by rw [wld_get h50 hal0, cellE_0 ha0]) (by rw [wld_get h5 hal, cellE_0 ha]) rfl rfl rfl q1 q2 q3 q4 q5 (fun _ _ => rfl) hF
    (by rw [csum_eq]; have : nativeFrameWords "java/lang/System" "arraycopy" 5 = 7 := by decide +kernel
        omega) hd (fin_I h5 hal (by rw [cellE_0 ha]; show Sum.inl (gI G, (shT (gL G) a).2, Sum.inl (upR h.2.1 a _ a)) = _; rw [upR_self]) hn hR hL kk)
theorem w_objInit (hx : p.tables.exec = Jvm.exec) (hb : c.code = cc) (hml : c.maxLocals = nL) (hts : ∀ w ∈ WL, w.before args s = true) (hown : s.vm.findClass (own oc) = some m.cls) (hF : 1 ≤ R.frames) (hLc : 20 ≤ R.locals) {ix a : Nat} (hf : (oc, ix) ∈ otab) (hcs : csum r ≤ 8) (hd : decode cc pc = .ok (.invokespecial ix, 3)) (kk : Wst rd G p l e R s m args below meth c n0 nL Q h (pc + 3) ls r) : Wst rd G p l e R s m args below meth c n0 nL Q h pc ls (.ref a :: r) := by
  intro hn H locs cls hR hS hL
  have w1 : Cond.methodLink (own oc) ix objectInit ∈ WL := in_WLj (List.mem_append_left _ (List.mem_map.mpr ⟨_, hf, rfl⟩))
  have w2 : Cond.instanceMethod objectInit ∈ WL := in_WLj (List.mem_append_right _ List.mem_cons_self)
  have w3 : Cond.code objectInit ⟨#[0xb1]⟩ 1 none ∈ WL := in_WLj (List.mem_append_right _ (List.mem_cons_of_mem _ List.mem_cons_self))
  exact W.objInit hx hb hown (hts _ w1) (hts _ w2) (hts _ w3) rfl (by rw [hml]; exact hL.1) rfl hd hF (by show 2 * 0 + _ + 12 ≤ _; rw [csum_eq]; omega) (kk hn H locs cls hR hS hL)
theorem mcode_max : Cond.code Lib.Math.max.name Lib.Math.max.code 2 (some .int) ∈ WL := by
  have h : Cond.code Lib.Math.max.name Lib.Math.max.code 2 (some .int) = codeW (mi 268) := by rfl
  rw [h]
  exact in_WLa6 (List.mem_map.mpr ⟨mi 268, List.mem_of_getElem? (i := 28) rfl, rfl⟩)
theorem w_max (hx : p.tables.exec = Jvm.exec) (hb : c.code = cc) (hml : c.maxLocals = nL) (hts : ∀ w ∈ WL, w.before args s = true) (hown : s.vm.findClass (own oc) = some m.cls) (hF : 1 ≤ R.frames) (hLc : 21 ≤ R.locals) {ix : Nat} {x y : Int32} (hf : (oc, ix, 1) ∈ xtab) (hcs : csum r ≤ 8) (hcl : h.1 - n0 ≤ R.cells) (hsl : szs (gL G) h.1 - szs (gL G) n0 ≤ R.slots) (hd : decode cc pc = .ok (.invokestatic ix, 3)) (kk : Wst rd G p l e R s m args below meth c n0 nL Q h (pc + 3) ls (.int (if x < y then y else x) :: r)) : Wst rd G p l e R s m args below meth c n0 nL Q h pc ls (.int y :: .int x :: r) := by
  intro hn H locs cls hR hS hL
  have w1 : Cond.methodLink (own oc) ix Lib.Math.max.name ∈ WL := in_WLx (List.mem_append_left _ (List.mem_map.mpr ⟨_, hf, rfl⟩))
  have w2 : Cond.static Lib.Math.max.name ∈ WL := in_WLx (List.mem_append_right _ (List.mem_of_getElem? (i := 1) rfl))
  have w3 : Cond.initialized "java/lang/Math" ∈ WL := in_WLg (List.mem_map.mpr ⟨_, by decide, rfl⟩)
  exact va_mmax hx hb (by rw [hL.1, hml]) hown (hts _ w1) (hts _ w2) (hts _ w3) (hts _ mcode_max) hF (by rw [csum_eq]; omega) hcl hsl hd (kk hn H locs cls hR hS hL)
theorem mcode_min : Cond.code Lib.Math.min.name Lib.Math.min.code 2 (some .int) ∈ WL := by
  have h : Cond.code Lib.Math.min.name Lib.Math.min.code 2 (some .int) = codeW (mi 269) := by rfl
  rw [h]
  exact in_WLa6 (List.mem_map.mpr ⟨mi 269, List.mem_of_getElem? (i := 29) rfl, rfl⟩)
theorem w_min (hx : p.tables.exec = Jvm.exec) (hb : c.code = cc) (hml : c.maxLocals = nL) (hts : ∀ w ∈ WL, w.before args s = true) (hown : s.vm.findClass (own oc) = some m.cls) (hF : 1 ≤ R.frames) (hLc : 21 ≤ R.locals) {ix : Nat} {x y : Int32} (hf : (oc, ix, 2) ∈ xtab) (hcs : csum r ≤ 8) (hcl : h.1 - n0 ≤ R.cells) (hsl : szs (gL G) h.1 - szs (gL G) n0 ≤ R.slots) (hd : decode cc pc = .ok (.invokestatic ix, 3)) (kk : Wst rd G p l e R s m args below meth c n0 nL Q h (pc + 3) ls (.int (if y < x then y else x) :: r)) : Wst rd G p l e R s m args below meth c n0 nL Q h pc ls (.int y :: .int x :: r) := by
  intro hn H locs cls hR hS hL
  have w1 : Cond.methodLink (own oc) ix Lib.Math.min.name ∈ WL := in_WLx (List.mem_append_left _ (List.mem_map.mpr ⟨_, hf, rfl⟩))
  have w2 : Cond.static Lib.Math.min.name ∈ WL := in_WLx (List.mem_append_right _ (List.mem_of_getElem? (i := 2) rfl))
  have w3 : Cond.initialized "java/lang/Math" ∈ WL := in_WLg (List.mem_map.mpr ⟨_, by decide, rfl⟩)
  exact va_mmin hx hb (by rw [hL.1, hml]) hown (hts _ w1) (hts _ w2) (hts _ w3) (hts _ mcode_min) hF (by rw [csum_eq]; omega) hcl hsl hd (kk hn H locs cls hR hS hL)
theorem mcode_abs : Cond.code Lib.Math.abs.name Lib.Math.abs.code 1 (some .int) ∈ WL := by
  have h : Cond.code Lib.Math.abs.name Lib.Math.abs.code 1 (some .int) = codeW (mi 267) := by rfl
  rw [h]
  exact in_WLa6 (List.mem_map.mpr ⟨mi 267, List.mem_of_getElem? (i := 27) rfl, rfl⟩)
theorem w_abs (hx : p.tables.exec = Jvm.exec) (hb : c.code = cc) (hml : c.maxLocals = nL) (hts : ∀ w ∈ WL, w.before args s = true) (hown : s.vm.findClass (own oc) = some m.cls) (hF : 1 ≤ R.frames) (hLc : 21 ≤ R.locals) {ix : Nat} {x : Int32} (hf : (oc, ix, 3) ∈ xtab) (hcs : csum r ≤ 8) (hcl : h.1 - n0 ≤ R.cells) (hsl : szs (gL G) h.1 - szs (gL G) n0 ≤ R.slots) (hd : decode cc pc = .ok (.invokestatic ix, 3)) (kk : Wst rd G p l e R s m args below meth c n0 nL Q h (pc + 3) ls (.int (if 0 ≤ x then x else 0 - x) :: r)) : Wst rd G p l e R s m args below meth c n0 nL Q h pc ls (.int x :: r) := by
  intro hn H locs cls hR hS hL
  have w1 : Cond.methodLink (own oc) ix Lib.Math.abs.name ∈ WL := in_WLx (List.mem_append_left _ (List.mem_map.mpr ⟨_, hf, rfl⟩))
  have w2 : Cond.static Lib.Math.abs.name ∈ WL := in_WLx (List.mem_append_right _ (List.mem_of_getElem? (i := 0) rfl))
  have w3 : Cond.initialized "java/lang/Math" ∈ WL := in_WLg (List.mem_map.mpr ⟨_, by decide, rfl⟩)
  exact va_mabs hx hb (by rw [hL.1, hml]) hown (hts _ w1) (hts _ w2) (hts _ w3) (hts _ mcode_abs) hF (by rw [csum_eq]; omega) hcl hsl hd (kk hn H locs cls hR hS hL)
end WH
