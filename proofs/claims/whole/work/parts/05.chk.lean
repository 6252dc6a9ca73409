/-! the static check of each instruction -/
def in4 : List (Nat × Nat × Nat × Nat) → Nat → Nat → Nat → Nat → Bool
  | [], _, _, _, _ => false
  | (a, b, c, d) :: t, x, y, z, w => (Nat.beq a x && (Nat.beq b y && (Nat.beq c z && Nat.beq d w))) || in4 t x y z w
def in3 : List (Nat × Nat × Nat) → Nat → Nat → Nat → Bool
  | [], _, _, _ => false
  | (a, b, c) :: t, x, y, z => (Nat.beq a x && (Nat.beq b y && Nat.beq c z)) || in3 t x y z
def in2 : List (Nat × Nat) → Nat → Nat → Bool
  | [], _, _ => false
  | (a, b) :: t, x, y => (Nat.beq a x && Nat.beq b y) || in2 t x y
def inL : List (Nat × Nat × Int32) → Nat → Nat → Int32 → Bool
  | [], _, _, _ => false
  | (a, b, c) :: t, x, y, z => (Nat.beq a x && (Nat.beq b y && decide (c = z))) || inL t x y z
theorem nbeq {a b : Nat} (h : Nat.beq a b = true) : a = b := Nat.eq_of_beq_eq_true h
theorem in4_mem : ∀ {l : List (Nat × Nat × Nat × Nat)} {x y z w : Nat}, in4 l x y z w = true → (x, y, z, w) ∈ l
  | [], _, _, _, _, h => by cases h
  | (a, b, c, d) :: t, x, y, z, w, h => by
    unfold in4 at h
    rcases Bool.or_eq_true _ _ ▸ h with h | h
    · simp only [Bool.and_eq_true] at h
      obtain ⟨h1, h2, h3, h4⟩ := h
      rw [nbeq h1, nbeq h2, nbeq h3, nbeq h4]
      exact List.mem_cons_self
    · exact List.mem_cons_of_mem _ (in4_mem h)
theorem in3_mem : ∀ {l : List (Nat × Nat × Nat)} {x y z : Nat}, in3 l x y z = true → (x, y, z) ∈ l
  | [], _, _, _, h => by cases h
  | (a, b, c) :: t, x, y, z, h => by
    unfold in3 at h
    rcases Bool.or_eq_true _ _ ▸ h with h | h
    · simp only [Bool.and_eq_true] at h
      obtain ⟨h1, h2, h3⟩ := h
      rw [nbeq h1, nbeq h2, nbeq h3]
      exact List.mem_cons_self
    · exact List.mem_cons_of_mem _ (in3_mem h)
theorem in2_mem : ∀ {l : List (Nat × Nat)} {x y : Nat}, in2 l x y = true → (x, y) ∈ l
  | [], _, _, h => by cases h
  | (a, b) :: t, x, y, h => by
    unfold in2 at h
    rcases Bool.or_eq_true _ _ ▸ h with h | h
    · simp only [Bool.and_eq_true] at h
      obtain ⟨h1, h2⟩ := h
      rw [nbeq h1, nbeq h2]
      exact List.mem_cons_self
    · exact List.mem_cons_of_mem _ (in2_mem h)
theorem inL_mem : ∀ {l : List (Nat × Nat × Int32)} {x y : Nat} {z : Int32}, inL l x y z = true → (x, y, z) ∈ l
  | [], _, _, _, h => by cases h
  | (a, b, c) :: t, x, y, z, h => by
    unfold inL at h
    rcases Bool.or_eq_true _ _ ▸ h with h | h
    · simp only [Bool.and_eq_true, decide_eq_true_eq] at h
      obtain ⟨h1, h2, h3⟩ := h
      rw [nbeq h1, nbeq h2, h3]
      exact List.mem_cons_self
    · exact List.mem_cons_of_mem _ (inL_mem h)
def rkOf (r : Option FieldType) : Nat := match r with
  | none => 0
  | some .int => 1
  | some .boolean => 1
  | some .long => 2
  | _ => 3
def isSt (M : Nat) : List Nat → Bool
  | [] => false
  | a :: t => Nat.beq a M || isSt M t
noncomputable def chkC (F Lc M' na rk mx : Nat) : Bool := Nat.beq (mi M').2.2.2.1 mx && (Nat.beq (mi M').2.2.2.2.2.1 na && (Nat.beq (rkOf (mi M').2.2.2.2.1) rk && (Nat.ble ((mi M').2.2.2.2.2.2.1 + 1) F && (Nat.ble (8 + ((mi M').2.2.2.1 + 11) + (mi M').2.2.2.2.2.2.2) Lc && (Nat.blt M' 271 && !(Nat.beq (mi M').1 15))))))
noncomputable def chkI (oc maxL F Lc : Nat) (ret : Option FieldType) (isInit : Bool) (pc : Nat) (ai : AI) : Bool := match ai.1 with
  | .iconst n => Nat.beq ai.2.1 1 && decide (Int32.ofInt n = kv ai.2.2.2)
  | .bipush n => Nat.beq ai.2.1 2 && decide ((Int8.ofInt n).toInt32 = kv ai.2.2.2)
  | .sipush n => Nat.beq ai.2.1 3 && decide ((Int16.ofInt n).toInt32 = kv ai.2.2.2)
  | .ldc_w ix => Nat.beq ai.2.1 3 && inL ltab oc ix (kv ai.2.2.2)
  | .lconst n => Nat.beq ai.2.1 1 && Nat.beq (ax ai.2.2.1 0) n.val
  | .ldc2_w ix => Nat.beq ai.2.1 3 && in2 jtab oc ix
  | .aconst_null => Nat.beq ai.2.1 1
  | .iload i => Nat.beq ai.2.1 2 && Nat.beq (ax ai.2.2.1 0) i
  | .lload i => Nat.beq ai.2.1 2 && Nat.beq (ax ai.2.2.1 0) i
  | .aload i => Nat.beq ai.2.1 2 && Nat.beq (ax ai.2.2.1 0) i
  | .iload_n i => Nat.beq ai.2.1 1 && Nat.beq (ax ai.2.2.1 0) i.val
  | .lload_n i => Nat.beq ai.2.1 1 && Nat.beq (ax ai.2.2.1 0) i.val
  | .aload_n i => Nat.beq ai.2.1 1 && Nat.beq (ax ai.2.2.1 0) i.val
  | .istore i => Nat.beq ai.2.1 2 && (Nat.beq (ax ai.2.2.1 0) i && Nat.blt i maxL)
  | .lstore i => Nat.beq ai.2.1 2 && (Nat.beq (ax ai.2.2.1 0) i && Nat.blt (i + 1) maxL)
  | .astore i => Nat.beq ai.2.1 2 && (Nat.beq (ax ai.2.2.1 0) i && Nat.blt i maxL)
  | .istore_n i => Nat.beq ai.2.1 1 && (Nat.beq (ax ai.2.2.1 0) i.val && Nat.blt i.val maxL)
  | .lstore_n i => Nat.beq ai.2.1 1 && (Nat.beq (ax ai.2.2.1 0) i.val && Nat.blt (i.val + 1) maxL)
  | .astore_n i => Nat.beq ai.2.1 1 && (Nat.beq (ax ai.2.2.1 0) i.val && Nat.blt i.val maxL)
  | .iinc i n => Nat.beq ai.2.1 3 && (Nat.beq (ax ai.2.2.1 0) i && (Nat.blt i maxL && decide (Int32.ofInt n = kv ai.2.2.2)))
  | .iadd | .isub | .imul | .iand | .ior | .ixor | .idiv | .irem | .ineg | .ishl | .ishr | .iushr | .i2l | .i2b | .i2s | .lmul | .lsub | .ldiv | .lrem | .lcmp | .dup | .dup2 => Nat.beq ai.2.1 1
  | .arraylength | .iaload | .baload | .aaload | .iastore | .bastore | .aastore => Nat.beq ai.2.1 1
  | .ifCond _ off => Nat.beq ai.2.1 3 && decide ((pc : Int) + off = (ax ai.2.2.1 0 : Int))
  | .if_icmp _ off => Nat.beq ai.2.1 3 && decide ((pc : Int) + off = (ax ai.2.2.1 0 : Int))
  | .ifnull off => Nat.beq ai.2.1 3 && decide ((pc : Int) + off = (ax ai.2.2.1 0 : Int))
  | .ifnonnull off => Nat.beq ai.2.1 3 && decide ((pc : Int) + off = (ax ai.2.2.1 0 : Int))
  | .goto off => Nat.beq ai.2.1 3 && decide ((pc : Int) + off = (ax ai.2.2.1 0 : Int))
  | .tableswitch d lo hi offs => decide ((pc : Int) + d = (ax ai.2.2.1 0 : Int)) && (decide (lo + offs.size = hi + 1) && (decide (0 ≤ lo) && (decide (hi < 1000) && decide (ai.2.2.2 = offs.toList.mapIdx (fun j o => (Int32.ofInt (lo + j), ((pc : Int) + o).toNat)) ∧ ∀ o ∈ offs.toList, 0 ≤ (pc : Int) + o))))
  | .lookupswitch d ps => decide ((pc : Int) + d = (ax ai.2.2.1 0 : Int)) && ((ps.toList.zip (ps.toList.drop 1)).all (fun (a, next) => a.1 < next.1) && decide (ai.2.2.2 = ps.toList.map (fun o => (Int32.ofInt o.1, ((pc : Int) + o.2).toNat)) ∧ ∀ o ∈ ps.toList, 0 ≤ (pc : Int) + o.2 ∧ 0 ≤ o.1 ∧ o.1 < 1000))
  | .getstatic ix => Nat.beq ai.2.1 3 && (in3 stab oc ix (ax ai.2.2.1 0) && (Nat.blt 0 (ax ai.2.2.1 0) && Nat.blt (ax ai.2.2.1 0) 5))
  | .getfield ix => Nat.beq ai.2.1 3 && (in4 ftab oc ix (ax ai.2.2.1 0) (ax ai.2.2.1 1) && (Nat.blt (ax ai.2.2.1 0) 13 && (Nat.blt (ax ai.2.2.1 1) (clT (ax ai.2.2.1 0)).2.2 && Nat.beq (gn (gll ftT (ax ai.2.2.1 0)) (ax ai.2.2.1 1)) (ax ai.2.2.1 2))))
  | .putfield ix => Nat.beq ai.2.1 3 && (in4 ftab oc ix (ax ai.2.2.1 0) (ax ai.2.2.1 1) && (Nat.blt (ax ai.2.2.1 0) 13 && (Nat.blt (ax ai.2.2.1 1) (clT (ax ai.2.2.1 0)).2.2 && (Nat.beq (gn (gll ftT (ax ai.2.2.1 0)) (ax ai.2.2.1 1)) (ax ai.2.2.1 2) &&
      (!((clT (ax ai.2.2.1 0)).2.1 (ax ai.2.2.1 1)).2.2.2 || (isInit && Nat.beq (ax ai.2.2.1 0) oc))))))
  | .new ix => Nat.beq ai.2.1 3 && (in3 ntab oc ix (ax ai.2.2.1 0) && Nat.blt (ax ai.2.2.1 0) 13)
  | .newarray t => Nat.beq ai.2.1 2 && ((Nat.beq (ax ai.2.2.1 0) 0 && decide (t = .int)) || (Nat.beq (ax ai.2.2.1 0) 1 && decide (t = .boolean)))
  | .anewarray ix => Nat.beq ai.2.1 3 && in2 atab oc ix
  | .multianewarray ix d => Nat.beq ai.2.1 4 && (in2 utab oc ix && Nat.beq d 2)
  | .invokevirtual ix => Nat.beq ai.2.1 3 && (in4 ctab oc ix (ax ai.2.2.1 0) 0 && (chkC F Lc (ax ai.2.2.1 0) (ax ai.2.2.1 1) (ax ai.2.2.1 2) (ax ai.2.2.1 4) && (Nat.beq (mi (ax ai.2.2.1 0)).1 (ax ai.2.2.1 3) && (Nat.blt (ax ai.2.2.1 3) 13 && Nat.blt 0 (ax ai.2.2.1 1)))))
  | .invokestatic ix => match ai.2.2.1 with
    | [] => Nat.beq ai.2.1 3 && (in2 ytab oc ix && (Nat.ble 1 F && Nat.ble 26 Lc))
    | [1] => Nat.beq ai.2.1 3 && (in3 xtab oc ix 1 && (Nat.ble 1 F && Nat.ble 21 Lc))
    | [2] => Nat.beq ai.2.1 3 && (in3 xtab oc ix 2 && (Nat.ble 1 F && Nat.ble 21 Lc))
    | [3] => Nat.beq ai.2.1 3 && (in3 xtab oc ix 3 && (Nat.ble 1 F && Nat.ble 21 Lc))
    | _ => Nat.beq ai.2.1 3 && ((in4 ctab oc ix (ax ai.2.2.1 0) 1 || in4 ctab oc ix (ax ai.2.2.1 0) 3) && chkC F Lc (ax ai.2.2.1 0) (ax ai.2.2.1 1) (ax ai.2.2.1 2) (ax ai.2.2.1 4))
  | .invokespecial ix => match ai.2.2.1 with
    | [] => Nat.beq ai.2.1 3 && (in2 otab oc ix && (Nat.ble 1 F && Nat.ble 20 Lc))
    | _ => Nat.beq ai.2.1 3 && ((in4 ctab oc ix (ax ai.2.2.1 0) 2 || in4 ctab oc ix (ax ai.2.2.1 0) 4) && (chkC F Lc (ax ai.2.2.1 0) (ax ai.2.2.1 1) 0 (ax ai.2.2.1 4) && Nat.blt 0 (ax ai.2.2.1 1)))
  | .ireturn => Nat.beq ai.2.1 1 && ((Nat.beq (ax ai.2.2.1 0) 0 && decide (ret = some .int)) || (Nat.beq (ax ai.2.2.1 0) 1 && decide (ret = some .boolean)))
  | .lreturn => Nat.beq ai.2.1 1 && decide (ret = some .long)
  | .areturn => Nat.beq ai.2.1 1 && decide (ret = some (.object "DryLand$Line"))
  | .return_ => Nat.beq ai.2.1 1 && decide (ret = none)
  | _ => true
noncomputable def chkQ (m : MI) (q : Nat × AI) : Bool := decide (decode m.2.2.1 q.1 = .ok (q.2.1, q.2.2.1)) && chkI m.1 m.2.2.2.1 m.2.2.2.2.2.2.1 m.2.2.2.2.2.2.2 m.2.2.2.2.1 (decide (m.2.1.name = "<init>")) q.1 q.2
noncomputable def chkM (M : Nat) : Bool := (cdT M).all (chkQ (mi M))
/-- of a method's name and kinds of its places -/
noncomputable def chkN (M : Nat) : Bool := Nat.beq (mi M).1 15 || (plainName (yM M).cls && (decide ((yM M).cls ≠ "java/lang/invoke/MethodHandle") && (decide ((yM M).cls ≠ "java/lang/invoke/VarHandle") && (decide ((yM M).cls = own (mi M).1) && (decide ((yM M).cls ∈ iniL) && decide ((parseMethodDescriptor (yM M).desc).map (fun d => d.parameters.length) = some ((mi M).2.2.2.2.2.1 - (bif isSt M statM then 0 else 1))))))))
set_option maxRecDepth 100000 in
theorem ckA0 : (List.range' 0 10).all chkM = true := by decide +kernel
set_option maxRecDepth 100000 in
theorem ckA1 : (List.range' 10 10).all chkM = true := by decide +kernel
set_option maxRecDepth 100000 in
theorem ckA2 : (List.range' 20 10).all chkM = true := by decide +kernel
set_option maxRecDepth 100000 in
theorem ckA3 : (List.range' 30 10).all chkM = true := by decide +kernel
set_option maxRecDepth 100000 in
theorem ckA4 : (List.range' 40 10).all chkM = true := by decide +kernel
set_option maxRecDepth 100000 in
theorem ckA5 : (List.range' 50 10).all chkM = true := by decide +kernel
set_option maxRecDepth 100000 in
theorem ckA6 : (List.range' 60 10).all chkM = true := by decide +kernel
set_option maxRecDepth 100000 in
theorem ckA7 : (List.range' 70 10).all chkM = true := by decide +kernel
set_option maxRecDepth 100000 in
theorem ckA8 : (List.range' 80 10).all chkM = true := by decide +kernel
set_option maxRecDepth 100000 in
theorem ckA9 : (List.range' 90 10).all chkM = true := by decide +kernel
set_option maxRecDepth 100000 in
theorem ckA10 : (List.range' 100 10).all chkM = true := by decide +kernel
set_option maxRecDepth 100000 in
theorem ckA11 : (List.range' 110 10).all chkM = true := by decide +kernel
set_option maxRecDepth 100000 in
theorem ckA12 : (List.range' 120 10).all chkM = true := by decide +kernel
set_option maxRecDepth 100000 in
theorem ckA13 : (List.range' 130 10).all chkM = true := by decide +kernel
set_option maxRecDepth 100000 in
theorem ckA14 : (List.range' 140 10).all chkM = true := by decide +kernel
set_option maxRecDepth 100000 in
theorem ckA15 : (List.range' 150 10).all chkM = true := by decide +kernel
set_option maxRecDepth 100000 in
theorem ckA16 : (List.range' 160 10).all chkM = true := by decide +kernel
set_option maxRecDepth 100000 in
theorem ckA17 : (List.range' 170 10).all chkM = true := by decide +kernel
set_option maxRecDepth 100000 in
theorem ckA18 : (List.range' 180 10).all chkM = true := by decide +kernel
set_option maxRecDepth 100000 in
theorem ckA19 : (List.range' 190 10).all chkM = true := by decide +kernel
set_option maxRecDepth 100000 in
theorem ckA20 : (List.range' 200 10).all chkM = true := by decide +kernel
set_option maxRecDepth 100000 in
theorem ckA21 : (List.range' 210 10).all chkM = true := by decide +kernel
set_option maxRecDepth 100000 in
theorem ckA22 : (List.range' 220 10).all chkM = true := by decide +kernel
set_option maxRecDepth 100000 in
theorem ckA23 : (List.range' 230 10).all chkM = true := by decide +kernel
set_option maxRecDepth 100000 in
theorem ckA24 : (List.range' 240 10).all chkM = true := by decide +kernel
set_option maxRecDepth 100000 in
theorem ckA25 : (List.range' 250 10).all chkM = true := by decide +kernel
set_option maxRecDepth 100000 in
theorem ckA26 : (List.range' 260 10).all chkM = true := by decide +kernel
set_option maxRecDepth 100000 in
theorem ckA27 : (List.range' 270 1).all chkM = true := by decide +kernel
set_option maxRecDepth 100000 in
theorem ckN0 : (List.range' 0 40).all chkN = true := by decide +kernel
set_option maxRecDepth 100000 in
theorem ckN1 : (List.range' 40 40).all chkN = true := by decide +kernel
set_option maxRecDepth 100000 in
theorem ckN2 : (List.range' 80 40).all chkN = true := by decide +kernel
set_option maxRecDepth 100000 in
theorem ckN3 : (List.range' 120 40).all chkN = true := by decide +kernel
set_option maxRecDepth 100000 in
theorem ckN4 : (List.range' 160 40).all chkN = true := by decide +kernel
set_option maxRecDepth 100000 in
theorem ckN5 : (List.range' 200 40).all chkN = true := by decide +kernel
set_option maxRecDepth 100000 in
theorem ckN6 : (List.range' 240 31).all chkN = true := by decide +kernel
set_option maxRecDepth 100000 in
theorem ckL0 : cd271_0.all (chkQ (mi 271)) = true := by decide +kernel
set_option maxRecDepth 100000 in
theorem ckL1 : cd271_1.all (chkQ (mi 271)) = true := by decide +kernel
set_option maxRecDepth 100000 in
theorem ckL2 : cd271_2.all (chkQ (mi 271)) = true := by decide +kernel
set_option maxRecDepth 100000 in
theorem ckL3 : cd271_3.all (chkQ (mi 271)) = true := by decide +kernel
set_option maxRecDepth 100000 in
theorem ckL4 : cd271_4.all (chkQ (mi 271)) = true := by decide +kernel
set_option maxRecDepth 100000 in
theorem ckL5 : cd271_5.all (chkQ (mi 271)) = true := by decide +kernel
set_option maxRecDepth 100000 in
theorem ckL6 : cd271_6.all (chkQ (mi 271)) = true := by decide +kernel
set_option maxRecDepth 100000 in
theorem ckL7 : cd271_7.all (chkQ (mi 271)) = true := by decide +kernel
set_option maxRecDepth 100000 in
theorem ckL8 : cd271_8.all (chkQ (mi 271)) = true := by decide +kernel
set_option maxRecDepth 100000 in
theorem ckL9 : cd271_9.all (chkQ (mi 271)) = true := by decide +kernel
set_option maxRecDepth 100000 in
theorem ckL10 : cd271_10.all (chkQ (mi 271)) = true := by decide +kernel
set_option maxRecDepth 100000 in
theorem ckL11 : cd271_11.all (chkQ (mi 271)) = true := by decide +kernel
set_option maxRecDepth 100000 in
theorem ckL12 : cd271_12.all (chkQ (mi 271)) = true := by decide +kernel
set_option maxRecDepth 100000 in
theorem ckL13 : cd271_13.all (chkQ (mi 271)) = true := by decide +kernel
set_option maxRecDepth 100000 in
theorem ckL14 : cd271_14.all (chkQ (mi 271)) = true := by decide +kernel
set_option maxRecDepth 100000 in
theorem ckL15 : cd271_15.all (chkQ (mi 271)) = true := by decide +kernel
