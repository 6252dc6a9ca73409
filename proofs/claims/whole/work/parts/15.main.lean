/-! a run of the abstract machine is a run of the machine -/
theorem lk_mem : ∀ {l : List (Nat × AI)} {pc : Nat} {ai : AI}, lk l pc = some ai → (pc, ai) ∈ l
  | [], _, _, h => by cases h
  | (q, a) :: t, pc, ai, h => by
    unfold lk at h
    cases hq : Nat.beq q pc with
    | true =>
      rw [hq] at h
      cases h
      rw [nbeq hq]
      exact List.mem_cons_self
    | false =>
      rw [hq] at h
      exact List.mem_cons_of_mem _ (lk_mem h)
theorem gl_rep : ∀ (n i : Nat), gl (List.replicate n none) i = none
  | 0, _ => rfl
  | _ + 1, 0 => rfl
  | n + 1, i + 1 => gl_rep n i
theorem gl_pad : ∀ (l : LV) (n i : Nat), gl (padT l n) i = gl l i
  | [], n, i => gl_rep n i
  | _ :: _, 0, _ => rfl
  | _ :: _, _ + 1, 0 => rfl
  | _ :: t, n + 1, i + 1 => gl_pad t n i
theorem ents_args (G : Gx) : ∀ (as : List Value) (k i : Nat) (v : Value), gl (ents as) i = some v → (k + i, phv G v) ∈ lv_args k (as.map (phv G))
  | [], k, i, v, h => by cases h
  | w :: r, k, i, v, h => by
    show (k + i, phv G v) ∈ (k, phv G w) :: lv_args (if (phv G w).category = 2 then k + 2 else k + 1) (r.map (phv G))
    cases w
    case long x =>
      match i, h with
      | 0, h => cases h; exact List.mem_cons_self
      | 1, h => cases h
      | i + 2, h =>
        have := ents_args G r (k + 2) i v h
        rw [show k + (i + 2) = k + 2 + i by omega]
        exact List.mem_cons_of_mem _ this
    case double x =>
      match i, h with
      | 0, h => cases h; exact List.mem_cons_self
      | 1, h => cases h
      | i + 2, h =>
        have := ents_args G r (k + 2) i v h
        rw [show k + (i + 2) = k + 2 + i by omega]
        exact List.mem_cons_of_mem _ this
    all_goals
      match i, h with
      | 0, h => cases h; exact List.mem_cons_self
      | i + 1, h =>
        have := ents_args G r (k + 1) i v h
        rw [show k + (i + 1) = k + 1 + i by omega]
        exact List.mem_cons_of_mem _ this
theorem lg_len (G : Gx) : ∀ as : List Value, (lg_sl (as.map (phv G))).length = csum as
  | [] => rfl
  | v :: r => by
    have := lg_len G r
    unfold lg_sl at this ⊢
    simp only [List.map_cons, List.flatMap_cons, List.length_append]
    rw [this, phv_cat]
    show _ = v.category + csum r
    rcases lv_cat v with h | h
    · rw [if_neg (by omega), h]; rfl
    · rw [if_pos h, h]; rfl
section MAIN
variable {S : Type} {rd : S → Nat → Nat → Option Nat} {wr : S → Nat → Nat → Nat → Option S} {G : Gx} {l : Launch}
def SndAt (rd : S → Nat → Nat → Option Nat) (wr : S → Nat → Nat → Nat → Option S) (G : Gx) (l : Launch) (n : Nat) : Prop := ∀ (M pc : Nat) (ls : LV) (st : List Value) (h : Hp S) (v : Option Value) (h1 : Hp S), run cdT (gL G) (gX G) (gT G) rd wr n M pc ls st h = some (v, h1) →
  ∀ (p : Program) (e : Env) (R : Room) (s : State) (m : MethodId) (args : Array Value) (below : List Frame) (meth : Method) (c : Code) (n0 : Nat) (Q : State → Prop), Cx G p R s m args meth c n0 M → h1.1 - n0 ≤ R.cells → szs (gL G) h1.1 - szs (gL G) n0 ≤ R.slots →
  (∀ (pc : Nat) (ls : LV) (ai : AI), (pc, ai) ∈ cdT M → retOK ai v → Wst rd G p l e R s m args below meth c n0 (mi M).2.2.2.1 Q h1 pc ls v.toList) → Wst rd G p l e R s m args below meth c n0 (mi M).2.2.2.1 Q h pc ls st
set_option maxHeartbeats 4000000 in
theorem met_of {n : Nat} (ih : SndAt rd wr G l n) {M : Nat} {as : List Value} {h h' : Hp S} {v : Option Value} (hg : CallGood M as) (hrun : run cdT (gL G) (gX G) (gT G) rd wr n M 0 (entm M as) [] h = some (v, h')) : MetC rd G l M as h v h' := by
  obtain ⟨g1, g2, g3⟩ := hg
  obtain ⟨a1, a2, a3, a4, a5, a6⟩ := chkN_at g2 (ckN_all M g1)
  have hle := run_n n M 0 (entm M as) [] h _ hrun
  unfold MetC
  refine Met.ofW (cc := (mi M).2.2.1) (maxL := (mi M).2.2.2.1) (ret := (mi M).2.2.2.2.1) a1 rfl ?_
  intro p e s m args below meth c s₁ B hml hv
  obtain ⟨rfl, hK, hR, hsz⟩ := hv
  have hr := B.returns
  have hlocks := B.notSynchronized
  have hts := atoms_spec (ws := codeW (mi M) :: WL) B.pre
  have hown : s.vm.findClass (own (mi M).1) = some m.cls := by rw [← a4]; exact findClass_of_methodNamed B.named
  have hname : meth.name = (yM M).name := (name_of_methodNamed B.named B.method).1
  have C : Cx G p (headSpec (codeW (mi M) :: WL) (rmc G M h h')).room s m (as.map (phv G)).toArray meth c h.1 M := ⟨B.exec, B.bytes, hml, hown, fun w hw => hts w (List.mem_cons_of_mem _ hw), Nat.le_refl _, Nat.le_refl _, fun q => by rw [hname]; exact q, hK, hsz, hR.1, ckM_all M (by omega)⟩
  have hl := lv_entry (as.map (phv G)) (n := (mi M).2.2.2.1) (by rw [lg_len]; exact g3)
  rw [lg_entry_eq]
  generalize (lg_sl (as.map (phv G)) ++ List.replicate ((mi M).2.2.2.1 - (lg_sl (as.map (phv G))).length) Slot.unset).toArray = cls at hl ⊢
  have hL : LRel G cls (mi M).2.2.2.1 (entm M as) := ⟨hl.1, hl.2.1, fun i w hw => by
    unfold entm at hw
    rw [gl_pad] at hw
    have := ents_args G as 0 i w hw
    rw [Nat.zero_add] at this
    exact hl.2.2 _ this⟩
  have K := ih M 0 (entm M as) [] h v h' hrun p e _ s m _ below meth c h.1 (MQ below (Qcc rd G v h') (as.map (phv G)).toArray s (h'.1 - h.1) (szs (gL G) h'.1 - szs (gL G) h.1) (AA G)) C (Nat.le_refl _) (Nat.le_refl _) (fun pc ls ai hmem hret => ?_) (Nat.le_refl _) s.heap [] cls hR va_S.rf hL
  · exact W.cs (by omega) (by omega) K
  · intro hn H locs cls' hR' hS hL'
    have hq := ckM_all M (by omega) _ hmem
    unfold chkQ at hq
    simp only [Bool.and_eq_true, decide_eq_true_eq] at hq
    obtain ⟨hd, hchk⟩ := hq
    obtain ⟨i, len, a, sw⟩ := ai
    rcases hret with ⟨rfl, x, rfl, hx⟩ | ⟨rfl, x, rfl⟩ | ⟨rfl, hx⟩ | ⟨rfl, rfl⟩
    · unfold chkI at hchk
      simp only [Bool.and_eq_true, Bool.or_eq_true, decide_eq_true_eq] at hchk
      obtain ⟨e1, e2⟩ := hchk
      obtain rfl := nbeq e1
      rcases e2 with ⟨z1, z2⟩ | ⟨z1, z2⟩
      · exact W.iret B.exec B.bytes (by rw [hr, z2]) (fun t ht _ => ⟨rfl, by rw [ht]; exact hR', hS.F ht⟩) hS.2.2 hd
      · have hb : x = 0 ∨ x = 1 := by
          rcases hx with q | q
          · have : ax a 0 = 0 := q
            rw [nbeq z1] at this
            omega
          · unfold b01 at q
            simpa using q
        refine W.zret B.exec B.bytes (by rw [hr, z2]) ?_ (fun t ht _ => ⟨rfl, by rw [ht]; exact hR', hS.F ht⟩) hS.2.2 hd
        rcases hb with rfl | rfl <;> decide
    · unfold chkI at hchk
      simp only [Bool.and_eq_true, decide_eq_true_eq] at hchk
      obtain ⟨e1, e2⟩ := hchk
      obtain rfl := nbeq e1
      exact W.lret B.exec B.bytes (by rw [hr, e2]) (fun t ht _ => ⟨rfl, by rw [ht]; exact hR', hS.F ht⟩) hS.2.2 hd
    · unfold chkI at hchk
      simp only [Bool.and_eq_true, decide_eq_true_eq] at hchk
      obtain ⟨e1, e2⟩ := hchk
      obtain rfl := nbeq e1
      rcases hx with rfl | ⟨x, rfl⟩
      · exact W.aret (v := .null) (rt := .object "DryLand$Line") B.exec B.bytes (by rw [hr, e2]) (Or.inl ⟨_, rfl⟩) (Or.inl rfl) (fun t ht _ => ⟨rfl, by rw [ht]; exact hR', hS.F ht⟩) hS.2.2 hd
      · exact W.aret (v := .ref (phi G x)) (rt := .object "DryLand$Line") B.exec B.bytes (by rw [hr, e2]) (Or.inl ⟨_, rfl⟩) (Or.inr ⟨_, rfl⟩) (fun t ht _ => ⟨rfl, by rw [ht]; exact hR', hS.F ht⟩) hS.2.2 hd
    · unfold chkI at hchk
      simp only [Bool.and_eq_true, decide_eq_true_eq] at hchk
      obtain ⟨e1, e2⟩ := hchk
      obtain rfl := nbeq e1
      exact W.vret B.exec B.bytes (by rw [hr, e2]) (fun t ht _ => ⟨rfl, by rw [ht]; exact hR', hS.F ht⟩) hS.2.2 hd
/-- soundness -/
theorem snd_all (hwr : ∀ (r : S) (a i v : Nat) (r' : S), wr r a i v = some r' → ∀ b j, rd r' b j = if b = a ∧ j = i then some v else rd r b j) : ∀ n : Nat, SndAt rd wr G l n := by
  intro n
  induction n with
  | zero => intro M pc ls st h v h1 hrun; cases hrun
  | succ n ih =>
    intro M pc ls st h v h1 hrun p e R s m args below meth c n0 Q C hcl hsl hend
    rw [run] at hrun
    cases hlk : lk (cdT M) pc with
    | none => rw [hlk] at hrun; cases hrun
    | some ai =>
      rw [hlk] at hrun
      dsimp only at hrun
      exact (step_sound hwr C hcl hsl (fun pc ls st h hr => ⟨run_n n M pc ls st h _ hr, ih M pc ls st h v h1 hr p e R s m args below meth c n0 Q C hcl hsl hend⟩)
        (fun M' as h v' h' hg hr => ⟨run_n n M' 0 _ [] h _ hr, met_of ih hg hr⟩) hend (lk_mem hlk) hrun).2
/-- a method's contract out of what the abstract machine comes to -/
theorem met_ev (hwr : ∀ (r : S) (a i v : Nat) (r' : S), wr r a i v = some r' → ∀ b j, rd r' b j = if b = a ∧ j = i then some v else rd r b j) {M : Nat} {as : List Value} {h : Hp S} {P : Option Value → Hp S → Prop} (hg : CallGood M as) (he : Ev cdT (gL G) (gX G) (gT G) rd wr M 0 (entm M as) [] h P) : ∃ v h', P v h' ∧ h.1 ≤ h'.1 ∧ MetC rd G l M as h v h' := by
  obtain ⟨n, v, h', hr, hp⟩ := he
  exact ⟨v, h', hp, run_n n M 0 _ [] h _ hr, met_of (snd_all hwr n) hg hr⟩
end MAIN
