/-! the constructors: an instance in which references are laid in a known order -/
def fnd : List (Nat × Nat × Nat) → Nat → Nat → Option Nat
  | [], _, _ => none
  | (x, y, v) :: t, a, i => match fnd t a i with
    | some w => some w
    | none => bif Nat.beq x a && Nat.beq y i then some v else none
def rd1 (c a i : Nat) : Option Nat := fnd (Rw.take c) a i
def gt3 : List (Nat × Nat × Nat) → Nat → Option (Nat × Nat × Nat)
  | [], _ => none
  | x :: _, 0 => some x
  | _ :: t, n + 1 => gt3 t n
def wr1 (c a i v : Nat) : Option Nat := match gt3 Rw c with
  | some (x, y, w) => bif Nat.beq x a && (Nat.beq y i && Nat.beq w v) then some (c + 1) else none
  | none => none
theorem gt3_take : ∀ (l : List (Nat × Nat × Nat)) (c : Nat) (e : Nat × Nat × Nat), gt3 l c = some e → l.take (c + 1) = l.take c ++ [e]
  | [], _, _, h => by cases h
  | x :: t, 0, e, h => by
    cases h
    rfl
  | x :: t, c + 1, e, h => by
    show x :: t.take (c + 1) = (x :: t.take c) ++ [e]
    rw [gt3_take t c e h]
    rfl
theorem fnd_app : ∀ (l : List (Nat × Nat × Nat)) (x y v a i : Nat), fnd (l ++ [(x, y, v)]) a i = if a = x ∧ i = y then some v else fnd l a i
  | [], x, y, v, a, i => by
    show (match fnd [] a i with
      | some w => some w
      | none => bif Nat.beq x a && Nat.beq y i then some v else none) = _
    show (bif Nat.beq x a && Nat.beq y i then some v else none) = _
    by_cases h : a = x ∧ i = y
    · rw [if_pos h, h.1, h.2]
      simp
    · rw [if_neg h]
      have : (Nat.beq x a && Nat.beq y i) = false := by
        cases hq : (Nat.beq x a && Nat.beq y i) with
        | false => rfl
        | true =>
          simp only [Bool.and_eq_true] at hq
          exact absurd ⟨(nbeq hq.1).symm, (nbeq hq.2).symm⟩ h
      rw [this]
      rfl
  | (x', y', v') :: t, x, y, v, a, i => by
    show (match fnd (t ++ [(x, y, v)]) a i with
      | some w => some w
      | none => bif Nat.beq x' a && Nat.beq y' i then some v' else none) = _
    rw [fnd_app t x y v a i]
    by_cases h : a = x ∧ i = y
    · rw [if_pos h, if_pos h]
    · rw [if_neg h, if_neg h]
      rfl
theorem hwr1 : ∀ (r a i v r' : Nat), wr1 r a i v = some r' → ∀ b j, rd1 r' b j = if b = a ∧ j = i then some v else rd1 r b j := by
  intro r a i v r' h b j
  unfold wr1 at h
  cases hq : gt3 Rw r with
  | none => rw [hq] at h; cases h
  | some e =>
    obtain ⟨x, y, w⟩ := e
    rw [hq] at h
    obtain ⟨h1, h2⟩ := bif_s h
    cases h2
    simp only [Bool.and_eq_true] at h1
    obtain rfl := nbeq h1.1
    obtain rfl := nbeq h1.2.1
    obtain rfl := nbeq h1.2.2
    unfold rd1
    rw [gt3_take Rw r _ hq, fnd_app]
abbrev E1 (X : XS) (M pc : Nat) (ls : LV) (st : List Value) (h : Hp Nat) (Q : Option Value → Hp Nat → Prop) : Prop := Ev cdT X.1 X.2 0 rd1 wr1 M pc ls st h Q
abbrev EC1 (X : XS) (M : Nat) (as : List Value) (h : Hp Nat) (Q : Option Value → Hp Nat → Prop) : Prop := Ev cdT X.1 X.2 0 rd1 wr1 M 0 (entm M as) [] h Q
def sU (I : Nat → Nat → Int32) (a i : Nat) (x : Int32) : Nat → Nat → Int32 := upR I a (upd (I a) i x)

set_option maxRecDepth 100000 in
set_option maxHeartbeats 4000000 in
theorem k76 (X : XS) (I : Nat → Nat → Int32) (J : Nat → Nat → Int64) (Q : Option Value → Hp Nat → Prop) : EC1 X 76 [.ref 6] (7, I, J, 0) Q ↔ Q none (15, sU (sU (sU (sU I 12 ((0 : Int32)).toNatClampNeg (-1 : Int32)) 12 ((1 : Int32)).toNatClampNeg (-1 : Int32)) 12 ((2 : Int32)).toNatClampNeg (-1 : Int32)) 12 ((3 : Int32)).toNatClampNeg (-1 : Int32), J, 8) := wp_iff (cm := cd76) rfl (stops := []) 1000 0 _ _ _
set_option maxRecDepth 100000 in
set_option maxHeartbeats 4000000 in
theorem k66 (X : XS) (I : Nat → Nat → Int32) (J : Nat → Nat → Int64) (Q : Option Value → Hp Nat → Prop) : EC1 X 66 [.ref 15] (16, I, J, 9) Q ↔ Q none (17, I, J, 10) := wp_iff (cm := cd66) rfl (stops := []) 1000 0 _ _ _
set_option maxRecDepth 100000 in
set_option maxHeartbeats 4000000 in
theorem k0 (X : XS) (I : Nat → Nat → Int32) (J : Nat → Nat → Int64) (Q : Option Value → Hp Nat → Prop) : EC1 X 0 [.ref 17] (18, I, J, 11) Q ↔ Q none (19, I, J, 12) := wp_iff (cm := cd0) rfl (stops := []) 1000 0 _ _ _
set_option maxRecDepth 100000 in
set_option maxHeartbeats 4000000 in
theorem k99 (X : XS) (I : Nat → Nat → Int32) (J : Nat → Nat → Int64) (Q : Option Value → Hp Nat → Prop) : EC1 X 99 [.ref 19] (20, I, J, 13) Q ↔ Q none (29, I, J, 22) := wp_iff (cm := cd99) rfl (stops := []) 1000 0 _ _ _
set_option maxRecDepth 100000 in
set_option maxHeartbeats 4000000 in
theorem k86 (X : XS) (I : Nat → Nat → Int32) (J : Nat → Nat → Int64) (Q : Option Value → Hp Nat → Prop) : EC1 X 86 [.ref 29] (30, I, J, 23) Q ↔ Q none (34, I, J, 27) := wp_iff (cm := cd86) rfl (stops := []) 1000 0 _ _ _
set_option maxRecDepth 100000 in
set_option maxHeartbeats 4000000 in
theorem k43 (X : XS) (I : Nat → Nat → Int32) (J : Nat → Nat → Int64) (Q : Option Value → Hp Nat → Prop) : EC1 X 43 [.ref 34] (35, I, J, 28) Q ↔ Q none (62, I, J, 55) := wp_iff (cm := cd43) rfl (stops := []) 1000 0 _ _ _
set_option maxRecDepth 100000 in
set_option maxHeartbeats 4000000 in
theorem k5 (X : XS) (I : Nat → Nat → Int32) (J : Nat → Nat → Int64) (Q : Option Value → Hp Nat → Prop) : EC1 X 5 [.ref 62] (63, I, J, 56) Q ↔ Q none (71, I, J, 64) := wp_iff (cm := cd5) rfl (stops := []) 1000 0 _ _ _
set_option maxRecDepth 100000 in
set_option maxHeartbeats 4000000 in
theorem k56 (X : XS) (I : Nat → Nat → Int32) (J : Nat → Nat → Int64) (Q : Option Value → Hp Nat → Prop) : EC1 X 56 [.ref 71] (72, I, J, 65) Q ↔ Q none (74, I, J, 67) := wp_iff (cm := cd56) rfl (stops := []) 1000 0 _ _ _
set_option maxRecDepth 100000 in
set_option maxHeartbeats 4000000 in
theorem k27 (X : XS) (I : Nat → Nat → Int32) (J : Nat → Nat → Int64) (Q : Option Value → Hp Nat → Prop) : EC1 X 27 [.ref 74] (75, I, J, 68) Q ↔ Q none (80, sU (sU I 74 5 (1 : Int32)) 74 6 (300 : Int32), upJ (upJ (upJ J 74 10 1) 74 11 1) 74 12 1, 73) := wp_iff (cm := cd27) rfl (stops := []) 1000 0 _ _ _
set_option maxRecDepth 100000 in
set_option maxHeartbeats 4000000 in
theorem k94 (X : XS) (I : Nat → Nat → Int32) (J : Nat → Nat → Int64) (Q : Option Value → Hp Nat → Prop) : EC1 X 94 [.ref 80] (81, I, J, 74) Q ↔ Q none (86, I, J, 79) := wp_iff (cm := cd94) rfl (stops := []) 1000 0 _ _ _
set_option maxRecDepth 100000 in
set_option maxHeartbeats 4000000 in
theorem k107_0 (X : XS) (I : Nat → Nat → Int32) (J : Nat → Nat → Int64) (Q : Option Value → Hp Nat → Prop) : E1 X 107 0 [some (.ref 5)] [] (6, I, J, 0) Q ↔ EC1 X 76 [.ref 6] (7, I, J, 0) (fun v h1 => rV v False (E1 X 107 12 [some (.ref 5)] [.ref 6, .ref 5] h1 Q)) := wp_iff (cm := cd107) rfl (stops := [12, 23, 34, 45, 56, 67, 78, 89, 100, 111]) 1000 0 _ _ _
set_option maxRecDepth 100000 in
set_option maxHeartbeats 4000000 in
theorem k107_12 (X : XS) (I : Nat → Nat → Int32) (J : Nat → Nat → Int64) (Q : Option Value → Hp Nat → Prop) : E1 X 107 12 [some (.ref 5)] [.ref 6, .ref 5] (15, I, J, 8) Q ↔ EC1 X 66 [.ref 15] (16, I, J, 9) (fun v h1 => rV v False (E1 X 107 23 [some (.ref 5)] [.ref 15, .ref 5] h1 Q)) := wp_iff (cm := cd107) rfl (stops := [12, 23, 34, 45, 56, 67, 78, 89, 100, 111]) 1000 12 _ _ _
set_option maxRecDepth 100000 in
set_option maxHeartbeats 4000000 in
theorem k107_23 (X : XS) (I : Nat → Nat → Int32) (J : Nat → Nat → Int64) (Q : Option Value → Hp Nat → Prop) : E1 X 107 23 [some (.ref 5)] [.ref 15, .ref 5] (17, I, J, 10) Q ↔ EC1 X 0 [.ref 17] (18, I, J, 11) (fun v h1 => rV v False (E1 X 107 34 [some (.ref 5)] [.ref 17, .ref 5] h1 Q)) := wp_iff (cm := cd107) rfl (stops := [12, 23, 34, 45, 56, 67, 78, 89, 100, 111]) 1000 23 _ _ _
set_option maxRecDepth 100000 in
set_option maxHeartbeats 4000000 in
theorem k107_34 (X : XS) (I : Nat → Nat → Int32) (J : Nat → Nat → Int64) (Q : Option Value → Hp Nat → Prop) : E1 X 107 34 [some (.ref 5)] [.ref 17, .ref 5] (19, I, J, 12) Q ↔ EC1 X 99 [.ref 19] (20, I, J, 13) (fun v h1 => rV v False (E1 X 107 45 [some (.ref 5)] [.ref 19, .ref 5] h1 Q)) := wp_iff (cm := cd107) rfl (stops := [12, 23, 34, 45, 56, 67, 78, 89, 100, 111]) 1000 34 _ _ _
set_option maxRecDepth 100000 in
set_option maxHeartbeats 4000000 in
theorem k107_45 (X : XS) (I : Nat → Nat → Int32) (J : Nat → Nat → Int64) (Q : Option Value → Hp Nat → Prop) : E1 X 107 45 [some (.ref 5)] [.ref 19, .ref 5] (29, I, J, 22) Q ↔ EC1 X 86 [.ref 29] (30, I, J, 23) (fun v h1 => rV v False (E1 X 107 56 [some (.ref 5)] [.ref 29, .ref 5] h1 Q)) := wp_iff (cm := cd107) rfl (stops := [12, 23, 34, 45, 56, 67, 78, 89, 100, 111]) 1000 45 _ _ _
set_option maxRecDepth 100000 in
set_option maxHeartbeats 4000000 in
theorem k107_56 (X : XS) (I : Nat → Nat → Int32) (J : Nat → Nat → Int64) (Q : Option Value → Hp Nat → Prop) : E1 X 107 56 [some (.ref 5)] [.ref 29, .ref 5] (34, I, J, 27) Q ↔ EC1 X 43 [.ref 34] (35, I, J, 28) (fun v h1 => rV v False (E1 X 107 67 [some (.ref 5)] [.ref 34, .ref 5] h1 Q)) := wp_iff (cm := cd107) rfl (stops := [12, 23, 34, 45, 56, 67, 78, 89, 100, 111]) 1000 56 _ _ _
set_option maxRecDepth 100000 in
set_option maxHeartbeats 4000000 in
theorem k107_67 (X : XS) (I : Nat → Nat → Int32) (J : Nat → Nat → Int64) (Q : Option Value → Hp Nat → Prop) : E1 X 107 67 [some (.ref 5)] [.ref 34, .ref 5] (62, I, J, 55) Q ↔ EC1 X 5 [.ref 62] (63, I, J, 56) (fun v h1 => rV v False (E1 X 107 78 [some (.ref 5)] [.ref 62, .ref 5] h1 Q)) := wp_iff (cm := cd107) rfl (stops := [12, 23, 34, 45, 56, 67, 78, 89, 100, 111]) 1000 67 _ _ _
set_option maxRecDepth 100000 in
set_option maxHeartbeats 4000000 in
theorem k107_78 (X : XS) (I : Nat → Nat → Int32) (J : Nat → Nat → Int64) (Q : Option Value → Hp Nat → Prop) : E1 X 107 78 [some (.ref 5)] [.ref 62, .ref 5] (71, I, J, 64) Q ↔ EC1 X 56 [.ref 71] (72, I, J, 65) (fun v h1 => rV v False (E1 X 107 89 [some (.ref 5)] [.ref 71, .ref 5] h1 Q)) := wp_iff (cm := cd107) rfl (stops := [12, 23, 34, 45, 56, 67, 78, 89, 100, 111]) 1000 78 _ _ _
set_option maxRecDepth 100000 in
set_option maxHeartbeats 4000000 in
theorem k107_89 (X : XS) (I : Nat → Nat → Int32) (J : Nat → Nat → Int64) (Q : Option Value → Hp Nat → Prop) : E1 X 107 89 [some (.ref 5)] [.ref 71, .ref 5] (74, I, J, 67) Q ↔ EC1 X 27 [.ref 74] (75, I, J, 68) (fun v h1 => rV v False (E1 X 107 100 [some (.ref 5)] [.ref 74, .ref 5] h1 Q)) := wp_iff (cm := cd107) rfl (stops := [12, 23, 34, 45, 56, 67, 78, 89, 100, 111]) 1000 89 _ _ _
set_option maxRecDepth 100000 in
set_option maxHeartbeats 4000000 in
theorem k107_100 (X : XS) (I : Nat → Nat → Int32) (J : Nat → Nat → Int64) (Q : Option Value → Hp Nat → Prop) : E1 X 107 100 [some (.ref 5)] [.ref 74, .ref 5] (80, I, J, 73) Q ↔ EC1 X 94 [.ref 80] (81, I, J, 74) (fun v h1 => rV v False (E1 X 107 111 [some (.ref 5)] [.ref 80, .ref 5] h1 Q)) := wp_iff (cm := cd107) rfl (stops := [12, 23, 34, 45, 56, 67, 78, 89, 100, 111]) 1000 100 _ _ _
set_option maxRecDepth 100000 in
set_option maxHeartbeats 4000000 in
theorem k107_111 (X : XS) (I : Nat → Nat → Int32) (J : Nat → Nat → Int64) (Q : Option Value → Hp Nat → Prop) : E1 X 107 111 [some (.ref 5)] [.ref 80, .ref 5] (86, I, J, 79) Q ↔ Q none (86, sU I 5 10 (3 : Int32), J, 80) := wp_iff (cm := cd107) rfl (stops := [12, 23, 34, 45, 56, 67, 78, 89, 100, 111]) 1000 111 _ _ _
set_option maxRecDepth 100000 in
set_option maxHeartbeats 4000000 in
theorem k107 (X : XS) (I : Nat → Nat → Int32) (J : Nat → Nat → Int64) (Q : Option Value → Hp Nat → Prop) : EC1 X 107 [.ref 5] (6, I, J, 0) Q ↔ Q none (86, sU (sU (sU (sU (sU (sU (sU I 12 ((0 : Int32)).toNatClampNeg (-1 : Int32)) 12 ((1 : Int32)).toNatClampNeg (-1 : Int32)) 12 ((2 : Int32)).toNatClampNeg (-1 : Int32)) 12 ((3 : Int32)).toNatClampNeg (-1 : Int32)) 74 5 (1 : Int32)) 74 6 (300 : Int32)) 5 10 (3 : Int32), upJ (upJ (upJ J 74 10 1) 74 11 1) 74 12 1, 80) := by
  show E1 X 107 0 [some (.ref 5)] [] (6, I, J, 0) Q ↔ _
  rw [k107_0]
  rw [k76]
  show E1 X _ _ _ _ _ Q ↔ _
  rw [k107_12]
  rw [k66]
  show E1 X _ _ _ _ _ Q ↔ _
  rw [k107_23]
  rw [k0]
  show E1 X _ _ _ _ _ Q ↔ _
  rw [k107_34]
  rw [k99]
  show E1 X _ _ _ _ _ Q ↔ _
  rw [k107_45]
  rw [k86]
  show E1 X _ _ _ _ _ Q ↔ _
  rw [k107_56]
  rw [k43]
  show E1 X _ _ _ _ _ Q ↔ _
  rw [k107_67]
  rw [k5]
  show E1 X _ _ _ _ _ Q ↔ _
  rw [k107_78]
  rw [k56]
  show E1 X _ _ _ _ _ Q ↔ _
  rw [k107_89]
  rw [k27]
  show E1 X _ _ _ _ _ Q ↔ _
  rw [k107_100]
  rw [k94]
  show E1 X _ _ _ _ _ Q ↔ _
  rw [k107_111]

set_option maxRecDepth 100000 in
set_option maxHeartbeats 4000000 in
theorem k165 (X : XS) (I : Nat → Nat → Int32) (J : Nat → Nat → Int64) (Q : Option Value → Hp Nat → Prop) : EC1 X 165 [.ref 86] (87, I, J, 80) Q ↔ Q none (137, sU (sU (sU (sU (sU (sU (sU I 87 ((0 : Int32)).toNatClampNeg (-9 : Int32)) 87 ((1 : Int32)).toNatClampNeg (-9 : Int32)) 87 ((2 : Int32)).toNatClampNeg (-9 : Int32)) 87 ((3 : Int32)).toNatClampNeg (-9 : Int32)) 86 59 (1 : Int32)) 86 60 (300 : Int32)) 86 70 (3 : Int32), J, 130) := wp_iff (cm := cd165) rfl (stops := []) 1000 0 _ _ _
