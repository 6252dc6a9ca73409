/-! each command in the law's loop -/
theorem le1 {s : List Nat} {h g : H2} (w : Wr s h g) (hs : 2 ∉ s) : g.1 ≤ h.1 + 1 := by
  have := (w.2.2 hs).1
  omega
theorem bnd {L i : Nat} (j : Nat) {z : Int32} (hz : z = nI j) (hi : i + 8 ≤ L) (hL : L ≤ 4096) (hj : j < 8) : ¬ (nI i + z < 0 ∨ L ≤ (nI i + z).toNatClampNeg) := by
  rw [hz, nI_add, nI_clamp (by omega)]
  exact fun q => q.elim (nI_pos (by omega)) (by omega)
theorem ite_p {c P R : Prop} [Decidable c] (a : c → P) (b : ¬ c → R) : if c then P else R := by
  by_cases q : c
  · rw [if_pos q]; exact a q
  · rw [if_neg q]; exact b q
theorem s271_260 (X : XS) (h : H2) (Q : Option Value → H2 → Prop) (i : Nat) (hi : i + 8 ≤ X.1) (hX : X.1 ≤ 4096) (iv : Inv h) (nx : ∀ h2, Inv h2 → h2.1 ≤ h.1 + 1 → E X 271 18 [some (.ref 0), some (.ref 5), some (.ref 86), some (.int (nI (i + 8)))] [] h2 Q) : E X 271 260 [some (.ref 0), some (.ref 5), some (.ref 86), some (.int (nI i))] [] h Q := by
  have e8 : nI i + 8 = nI (i + 8) := by rw [← nI_add]; rfl
  have b1 := bnd (L := X.1) (i := i) 1 (z := 1) (by decide) hi hX (by omega)
  have b2 := bnd (L := X.1) (i := i) 2 (z := 2) (by decide) hi hX (by omega)
  have b3 := bnd (L := X.1) (i := i) 3 (z := 3) (by decide) hi hX (by omega)
  have b4 := bnd (L := X.1) (i := i) 4 (z := 4) (by decide) hi hX (by omega)
  rw [g271_260]
  simp only [b1, b2, b3, b4, if_false, e8]
  exact fnI (by decide +kernel) (c_text X h ⟨iv.1, iv.2.1⟩ _ _ _ _) (fun h2 r => nx h2 (Inv_W iv r.2.1 (fun _ => r.1.1) (fun _ => r.1.2) (fun z => absurd z (by decide)) (fun z => absurd z (by decide)) (fun z => absurd z (by decide)) (fun z => absurd z (by decide)) (fun z => absurd z (by decide)) (fun z => absurd z (by decide)) (fun z => absurd z (by decide)) (fun z => absurd z (by decide)) (fun z => absurd z (by decide))) r.2.2)
theorem s271_313 (X : XS) (h : H2) (Q : Option Value → H2 → Prop) (i : Nat) (hi : i + 8 ≤ X.1) (hX : X.1 ≤ 4096) (iv : Inv h) (nx : ∀ h2, Inv h2 → h2.1 ≤ h.1 + 1 → E X 271 18 [some (.ref 0), some (.ref 5), some (.ref 86), some (.int (nI (i + 8)))] [] h2 Q) : E X 271 313 [some (.ref 0), some (.ref 5), some (.ref 86), some (.int (nI i))] [] h Q := by
  have e8 : nI i + 8 = nI (i + 8) := by rw [← nI_add]; rfl
  have b1 := bnd (L := X.1) (i := i) 1 (z := 1) (by decide) hi hX (by omega)
  have b2 := bnd (L := X.1) (i := i) 2 (z := 2) (by decide) hi hX (by omega)
  rw [g271_313]
  simp only [b1, b2, if_false, e8]
  exact fnI (by decide +kernel) (d_strike X h iv.2.1 _ _) (fun h2 r => nx h2 (Inv_W iv r.2.1 (fun z => absurd z (by decide)) (fun _ => r.1) (fun z => absurd z (by decide)) (fun z => absurd z (by decide)) (fun z => absurd z (by decide)) (fun z => absurd z (by decide)) (fun z => absurd z (by decide)) (fun z => absurd z (by decide)) (fun z => absurd z (by decide)) (fun z => absurd z (by decide)) (fun z => absurd z (by decide))) (by have := r.2.2; omega))
theorem s271_346 (X : XS) (h : H2) (Q : Option Value → H2 → Prop) (i : Nat) (hi : i + 8 ≤ X.1) (hX : X.1 ≤ 4096) (iv : Inv h) (nx : ∀ h2, Inv h2 → h2.1 ≤ h.1 + 1 → E X 271 18 [some (.ref 0), some (.ref 5), some (.ref 86), some (.int (nI (i + 8)))] [] h2 Q) : E X 271 346 [some (.ref 0), some (.ref 5), some (.ref 86), some (.int (nI i))] [] h Q := by
  have e8 : nI i + 8 = nI (i + 8) := by rw [← nI_add]; rfl
  have b1 := bnd (L := X.1) (i := i) 1 (z := 1) (by decide) hi hX (by omega)
  have b2 := bnd (L := X.1) (i := i) 2 (z := 2) (by decide) hi hX (by omega)
  rw [g271_346]
  simp only [b1, b2, if_false, e8]
  exact fnI (by decide +kernel) (d_line X h iv.2.1 _ _) (fun h2 r => nx h2 (Inv_W iv r.2.1 (fun z => absurd z (by decide)) (fun _ => r.1) (fun z => absurd z (by decide)) (fun z => absurd z (by decide)) (fun z => absurd z (by decide)) (fun z => absurd z (by decide)) (fun z => absurd z (by decide)) (fun z => absurd z (by decide)) (fun z => absurd z (by decide)) (fun z => absurd z (by decide)) (fun z => absurd z (by decide))) (by have := r.2.2; omega))
theorem s271_379 (X : XS) (h : H2) (Q : Option Value → H2 → Prop) (i : Nat) (hi : i + 8 ≤ X.1) (hX : X.1 ≤ 4096) (iv : Inv h) (nx : ∀ h2, Inv h2 → h2.1 ≤ h.1 + 1 → E X 271 18 [some (.ref 0), some (.ref 5), some (.ref 86), some (.int (nI (i + 8)))] [] h2 Q) : E X 271 379 [some (.ref 0), some (.ref 5), some (.ref 86), some (.int (nI i))] [] h Q := by
  have e8 : nI i + 8 = nI (i + 8) := by rw [← nI_add]; rfl
  have b1 := bnd (L := X.1) (i := i) 1 (z := 1) (by decide) hi hX (by omega)
  have b2 := bnd (L := X.1) (i := i) 2 (z := 2) (by decide) hi hX (by omega)
  have b3 := bnd (L := X.1) (i := i) 3 (z := 3) (by decide) hi hX (by omega)
  have b4 := bnd (L := X.1) (i := i) 4 (z := 4) (by decide) hi hX (by omega)
  have b5 := bnd (L := X.1) (i := i) 5 (z := 5) (by decide) hi hX (by omega)
  rw [g271_379]
  simp only [b1, b2, b3, b4, b5, if_false, e8]
  exact fnI (by decide +kernel) (d_stops X h iv.2.1 _ _ _ _ _) (fun h2 r => nx h2 (Inv_W iv r.2.1 (fun z => absurd z (by decide)) (fun _ => r.1) (fun z => absurd z (by decide)) (fun z => absurd z (by decide)) (fun z => absurd z (by decide)) (fun z => absurd z (by decide)) (fun z => absurd z (by decide)) (fun z => absurd z (by decide)) (fun z => absurd z (by decide)) (fun z => absurd z (by decide)) (fun z => absurd z (by decide))) (by have := r.2.2; omega))
theorem s271_442 (X : XS) (h : H2) (Q : Option Value → H2 → Prop) (i : Nat) (hi : i + 8 ≤ X.1) (hX : X.1 ≤ 4096) (iv : Inv h) (nx : ∀ h2, Inv h2 → h2.1 ≤ h.1 + 1 → E X 271 18 [some (.ref 0), some (.ref 5), some (.ref 86), some (.int (nI (i + 8)))] [] h2 Q) : E X 271 442 [some (.ref 0), some (.ref 5), some (.ref 86), some (.int (nI i))] [] h Q := by
  have e8 : nI i + 8 = nI (i + 8) := by rw [← nI_add]; rfl
  have b1 := bnd (L := X.1) (i := i) 1 (z := 1) (by decide) hi hX (by omega)
  have b2 := bnd (L := X.1) (i := i) 2 (z := 2) (by decide) hi hX (by omega)
  have b3 := bnd (L := X.1) (i := i) 3 (z := 3) (by decide) hi hX (by omega)
  have b4 := bnd (L := X.1) (i := i) 4 (z := 4) (by decide) hi hX (by omega)
  have b5 := bnd (L := X.1) (i := i) 5 (z := 5) (by decide) hi hX (by omega)
  rw [g271_442]
  simp only [b1, b2, b3, b4, b5, if_false, e8]
  exact fnI (by decide +kernel) (d_why X h iv.2.1 _ _ _ _ _) (fun h2 r => nx h2 (Inv_W iv r.2.1 (fun z => absurd z (by decide)) (fun _ => r.1) (fun z => absurd z (by decide)) (fun z => absurd z (by decide)) (fun z => absurd z (by decide)) (fun z => absurd z (by decide)) (fun z => absurd z (by decide)) (fun z => absurd z (by decide)) (fun z => absurd z (by decide)) (fun z => absurd z (by decide)) (fun z => absurd z (by decide))) (by have := r.2.2; omega))
theorem s271_505 (X : XS) (h : H2) (Q : Option Value → H2 → Prop) (i : Nat) (hi : i + 8 ≤ X.1) (hX : X.1 ≤ 4096) (iv : Inv h) (nx : ∀ h2, Inv h2 → h2.1 ≤ h.1 + 1 → E X 271 18 [some (.ref 0), some (.ref 5), some (.ref 86), some (.int (nI (i + 8)))] [] h2 Q) : E X 271 505 [some (.ref 0), some (.ref 5), some (.ref 86), some (.int (nI i))] [] h Q := by
  have e8 : nI i + 8 = nI (i + 8) := by rw [← nI_add]; rfl
  have b1 := bnd (L := X.1) (i := i) 1 (z := 1) (by decide) hi hX (by omega)
  rw [g271_505]
  simp only [b1, if_false, e8]
  exact fnI (by decide +kernel) (d_force X h iv.2.1 _) (fun h2 r => nx h2 (Inv_W iv r.2.1 (fun z => absurd z (by decide)) (fun _ => r.1) (fun z => absurd z (by decide)) (fun z => absurd z (by decide)) (fun z => absurd z (by decide)) (fun z => absurd z (by decide)) (fun z => absurd z (by decide)) (fun z => absurd z (by decide)) (fun z => absurd z (by decide)) (fun z => absurd z (by decide)) (fun z => absurd z (by decide))) (by have := r.2.2; omega))
theorem s271_528 (X : XS) (h : H2) (Q : Option Value → H2 → Prop) (i : Nat) (hi : i + 8 ≤ X.1) (hX : X.1 ≤ 4096) (iv : Inv h) (nx : ∀ h2, Inv h2 → h2.1 ≤ h.1 + 1 → E X 271 18 [some (.ref 0), some (.ref 5), some (.ref 86), some (.int (nI (i + 8)))] [] h2 Q) : E X 271 528 [some (.ref 0), some (.ref 5), some (.ref 86), some (.int (nI i))] [] h Q := by
  have e8 : nI i + 8 = nI (i + 8) := by rw [← nI_add]; rfl
  have b1 := bnd (L := X.1) (i := i) 1 (z := 1) (by decide) hi hX (by omega)
  have b2 := bnd (L := X.1) (i := i) 2 (z := 2) (by decide) hi hX (by omega)
  have b3 := bnd (L := X.1) (i := i) 3 (z := 3) (by decide) hi hX (by omega)
  have b4 := bnd (L := X.1) (i := i) 4 (z := 4) (by decide) hi hX (by omega)
  have b5 := bnd (L := X.1) (i := i) 5 (z := 5) (by decide) hi hX (by omega)
  have b6 := bnd (L := X.1) (i := i) 6 (z := 6) (by decide) hi hX (by omega)
  rw [g271_528]
  simp only [b1, b2, b3, b4, b5, b6, if_false, e8]
  exact fnI (by decide +kernel) (c_step X h iv.2.2.1 _ _ _ _ _ _) (fun h2 r => nx h2 (Inv_W iv r.2 (fun z => absurd z (by decide)) (fun z => absurd z (by decide)) (fun _ => r.1) (fun z => absurd z (by decide)) (fun z => absurd z (by decide)) (fun z => absurd z (by decide)) (fun z => absurd z (by decide)) (fun z => absurd z (by decide)) (fun z => absurd z (by decide)) (fun z => absurd z (by decide)) (fun z => absurd z (by decide))) (le1 r.2 (by decide)))
theorem s271_603 (X : XS) (h : H2) (Q : Option Value → H2 → Prop) (i : Nat) (hi : i + 8 ≤ X.1) (hX : X.1 ≤ 4096) (iv : Inv h) (nx : ∀ h2, Inv h2 → h2.1 ≤ h.1 + 1 → E X 271 18 [some (.ref 0), some (.ref 5), some (.ref 86), some (.int (nI (i + 8)))] [] h2 Q) : E X 271 603 [some (.ref 0), some (.ref 5), some (.ref 86), some (.int (nI i))] [] h Q := by
  have e8 : nI i + 8 = nI (i + 8) := by rw [← nI_add]; rfl
  have b1 := bnd (L := X.1) (i := i) 1 (z := 1) (by decide) hi hX (by omega)
  have b2 := bnd (L := X.1) (i := i) 2 (z := 2) (by decide) hi hX (by omega)
  rw [g271_603]
  simp only [b1, b2, if_false, e8]
  exact fnI (by decide +kernel) (c_least X h iv.2.1 iv.2.2.1 _ _) (fun h2 r => nx h2 (Inv_W iv r (fun z => absurd z (by decide)) (fun z => absurd z (by decide)) (fun z => absurd z (by decide)) (fun z => absurd z (by decide)) (fun z => absurd z (by decide)) (fun z => absurd z (by decide)) (fun z => absurd z (by decide)) (fun z => absurd z (by decide)) (fun z => absurd z (by decide)) (fun z => absurd z (by decide)) (fun z => absurd z (by decide))) (le1 r (by decide)))
theorem s271_636 (X : XS) (h : H2) (Q : Option Value → H2 → Prop) (i : Nat) (hi : i + 8 ≤ X.1) (hX : X.1 ≤ 4096) (iv : Inv h) (nx : ∀ h2, Inv h2 → h2.1 ≤ h.1 + 1 → E X 271 18 [some (.ref 0), some (.ref 5), some (.ref 86), some (.int (nI (i + 8)))] [] h2 Q) : E X 271 636 [some (.ref 0), some (.ref 5), some (.ref 86), some (.int (nI i))] [] h Q := by
  have e8 : nI i + 8 = nI (i + 8) := by rw [← nI_add]; rfl
  have b1 := bnd (L := X.1) (i := i) 1 (z := 1) (by decide) hi hX (by omega)
  have b2 := bnd (L := X.1) (i := i) 2 (z := 2) (by decide) hi hX (by omega)
  have b3 := bnd (L := X.1) (i := i) 3 (z := 3) (by decide) hi hX (by omega)
  have b4 := bnd (L := X.1) (i := i) 4 (z := 4) (by decide) hi hX (by omega)
  have b5 := bnd (L := X.1) (i := i) 5 (z := 5) (by decide) hi hX (by omega)
  rw [g271_636]
  simp only [b1, b2, b3, b4, b5, if_false, e8]
  exact fnI (by decide +kernel) (c_more X h ⟨iv.1, iv.2.1⟩ iv.2.2.1 _ _ _ _ _) (fun h2 r => nx h2 (Inv_W iv r.2.1 (fun _ => r.1.1) (fun _ => r.1.2) (fun z => absurd z (by decide)) (fun z => absurd z (by decide)) (fun z => absurd z (by decide)) (fun z => absurd z (by decide)) (fun z => absurd z (by decide)) (fun z => absurd z (by decide)) (fun z => absurd z (by decide)) (fun z => absurd z (by decide)) (fun z => absurd z (by decide))) r.2.2)
theorem s271_699 (X : XS) (h : H2) (Q : Option Value → H2 → Prop) (i : Nat) (hi : i + 8 ≤ X.1) (hX : X.1 ≤ 4096) (iv : Inv h) (nx : ∀ h2, Inv h2 → h2.1 ≤ h.1 + 1 → E X 271 18 [some (.ref 0), some (.ref 5), some (.ref 86), some (.int (nI (i + 8)))] [] h2 Q) : E X 271 699 [some (.ref 0), some (.ref 5), some (.ref 86), some (.int (nI i))] [] h Q := by
  have e8 : nI i + 8 = nI (i + 8) := by rw [← nI_add]; rfl
  have b1 := bnd (L := X.1) (i := i) 1 (z := 1) (by decide) hi hX (by omega)
  rw [g271_699]
  simp only [b1, if_false, e8]
  exact fnI (by decide +kernel) (c_doctor X h iv.2.2.2.1 _) (fun h2 r => nx h2 (Inv_W iv r.2 (fun z => absurd z (by decide)) (fun z => absurd z (by decide)) (fun z => absurd z (by decide)) (fun _ => r.1) (fun z => absurd z (by decide)) (fun z => absurd z (by decide)) (fun z => absurd z (by decide)) (fun z => absurd z (by decide)) (fun z => absurd z (by decide)) (fun z => absurd z (by decide)) (fun z => absurd z (by decide))) (le1 r.2 (by decide)))
theorem s271_722 (X : XS) (h : H2) (Q : Option Value → H2 → Prop) (i : Nat) (hi : i + 8 ≤ X.1) (hX : X.1 ≤ 4096) (iv : Inv h) (nx : ∀ h2, Inv h2 → h2.1 ≤ h.1 + 1 → E X 271 18 [some (.ref 0), some (.ref 5), some (.ref 86), some (.int (nI (i + 8)))] [] h2 Q) : E X 271 722 [some (.ref 0), some (.ref 5), some (.ref 86), some (.int (nI i))] [] h Q := by
  have e8 : nI i + 8 = nI (i + 8) := by rw [← nI_add]; rfl
  have b1 := bnd (L := X.1) (i := i) 1 (z := 1) (by decide) hi hX (by omega)
  have b2 := bnd (L := X.1) (i := i) 2 (z := 2) (by decide) hi hX (by omega)
  have b3 := bnd (L := X.1) (i := i) 3 (z := 3) (by decide) hi hX (by omega)
  rw [g271_722]
  simp only [b1, b2, b3, if_false, e8]
  exact fnI (by decide +kernel) (c_slip X h iv.2.2.2.1 _ _ _) (fun h2 r => nx h2 (Inv_W iv r.2 (fun z => absurd z (by decide)) (fun z => absurd z (by decide)) (fun z => absurd z (by decide)) (fun _ => r.1) (fun z => absurd z (by decide)) (fun z => absurd z (by decide)) (fun z => absurd z (by decide)) (fun z => absurd z (by decide)) (fun z => absurd z (by decide)) (fun z => absurd z (by decide)) (fun z => absurd z (by decide))) (le1 r.2 (by decide)))
theorem s271_765 (X : XS) (h : H2) (Q : Option Value → H2 → Prop) (i : Nat) (hi : i + 8 ≤ X.1) (hX : X.1 ≤ 4096) (iv : Inv h) (nx : ∀ h2, Inv h2 → h2.1 ≤ h.1 + 1 → E X 271 18 [some (.ref 0), some (.ref 5), some (.ref 86), some (.int (nI (i + 8)))] [] h2 Q) : E X 271 765 [some (.ref 0), some (.ref 5), some (.ref 86), some (.int (nI i))] [] h Q := by
  have e8 : nI i + 8 = nI (i + 8) := by rw [← nI_add]; rfl
  rw [g271_765]
  rw [e8]
  exact fnI (by decide +kernel) (c_twice X h iv.2.2.2.1) (fun h2 r => nx h2 (Inv_W iv r.2 (fun z => absurd z (by decide)) (fun z => absurd z (by decide)) (fun z => absurd z (by decide)) (fun _ => r.1) (fun z => absurd z (by decide)) (fun z => absurd z (by decide)) (fun z => absurd z (by decide)) (fun z => absurd z (by decide)) (fun z => absurd z (by decide)) (fun z => absurd z (by decide)) (fun z => absurd z (by decide))) (le1 r.2 (by decide)))
theorem s271_778 (X : XS) (h : H2) (Q : Option Value → H2 → Prop) (i : Nat) (hi : i + 8 ≤ X.1) (hX : X.1 ≤ 4096) (iv : Inv h) (nx : ∀ h2, Inv h2 → h2.1 ≤ h.1 + 1 → E X 271 18 [some (.ref 0), some (.ref 5), some (.ref 86), some (.int (nI (i + 8)))] [] h2 Q) : E X 271 778 [some (.ref 0), some (.ref 5), some (.ref 86), some (.int (nI i))] [] h Q := by
  have e8 : nI i + 8 = nI (i + 8) := by rw [← nI_add]; rfl
  have b1 := bnd (L := X.1) (i := i) 1 (z := 1) (by decide) hi hX (by omega)
  have b2 := bnd (L := X.1) (i := i) 2 (z := 2) (by decide) hi hX (by omega)
  rw [g271_778]
  simp only [b1, b2, if_false, e8]
  exact fnI (by decide +kernel) (c_tooMany X h iv.2.2.2.1 _ _) (fun h2 r => nx h2 (Inv_W iv r.2 (fun z => absurd z (by decide)) (fun z => absurd z (by decide)) (fun z => absurd z (by decide)) (fun _ => r.1) (fun z => absurd z (by decide)) (fun z => absurd z (by decide)) (fun z => absurd z (by decide)) (fun z => absurd z (by decide)) (fun z => absurd z (by decide)) (fun z => absurd z (by decide)) (fun z => absurd z (by decide))) (le1 r.2 (by decide)))
theorem s271_811 (X : XS) (h : H2) (Q : Option Value → H2 → Prop) (i : Nat) (hi : i + 8 ≤ X.1) (hX : X.1 ≤ 4096) (iv : Inv h) (nx : ∀ h2, Inv h2 → h2.1 ≤ h.1 + 1 → E X 271 18 [some (.ref 0), some (.ref 5), some (.ref 86), some (.int (nI (i + 8)))] [] h2 Q) : E X 271 811 [some (.ref 0), some (.ref 5), some (.ref 86), some (.int (nI i))] [] h Q := by
  have e8 : nI i + 8 = nI (i + 8) := by rw [← nI_add]; rfl
  have b1 := bnd (L := X.1) (i := i) 1 (z := 1) (by decide) hi hX (by omega)
  have b2 := bnd (L := X.1) (i := i) 2 (z := 2) (by decide) hi hX (by omega)
  have b3 := bnd (L := X.1) (i := i) 3 (z := 3) (by decide) hi hX (by omega)
  have b4 := bnd (L := X.1) (i := i) 4 (z := 4) (by decide) hi hX (by omega)
  rw [g271_811]
  simp only [b1, b2, b3, b4, if_false, e8]
  exact fnI (by decide +kernel) (c_agent X h ⟨iv.1, iv.2.2.2.2.1⟩ _ _ _ _) (fun h2 r => nx h2 (Inv_W iv r.2 (fun _ => r.1.1) (fun z => absurd z (by decide)) (fun z => absurd z (by decide)) (fun z => absurd z (by decide)) (fun _ => r.1.2) (fun z => absurd z (by decide)) (fun z => absurd z (by decide)) (fun z => absurd z (by decide)) (fun z => absurd z (by decide)) (fun z => absurd z (by decide)) (fun z => absurd z (by decide))) (le1 r.2 (by decide)))
theorem s271_864 (X : XS) (h : H2) (Q : Option Value → H2 → Prop) (i : Nat) (hi : i + 8 ≤ X.1) (hX : X.1 ≤ 4096) (iv : Inv h) (nx : ∀ h2, Inv h2 → h2.1 ≤ h.1 + 1 → E X 271 18 [some (.ref 0), some (.ref 5), some (.ref 86), some (.int (nI (i + 8)))] [] h2 Q) : E X 271 864 [some (.ref 0), some (.ref 5), some (.ref 86), some (.int (nI i))] [] h Q := by
  have e8 : nI i + 8 = nI (i + 8) := by rw [← nI_add]; rfl
  have b1 := bnd (L := X.1) (i := i) 1 (z := 1) (by decide) hi hX (by omega)
  have b2 := bnd (L := X.1) (i := i) 2 (z := 2) (by decide) hi hX (by omega)
  have b3 := bnd (L := X.1) (i := i) 3 (z := 3) (by decide) hi hX (by omega)
  have b4 := bnd (L := X.1) (i := i) 4 (z := 4) (by decide) hi hX (by omega)
  have b5 := bnd (L := X.1) (i := i) 5 (z := 5) (by decide) hi hX (by omega)
  have b6 := bnd (L := X.1) (i := i) 6 (z := 6) (by decide) hi hX (by omega)
  rw [g271_864]
  simp only [b1, b2, b3, b4, b5, b6, if_false, e8]
  exact fnI (by decide +kernel) (c_truck X h ⟨iv.1, iv.2.2.2.2.1⟩ _ _ _ _ _ _) (fun h2 r => nx h2 (Inv_W iv r.2 (fun _ => r.1.1) (fun z => absurd z (by decide)) (fun z => absurd z (by decide)) (fun z => absurd z (by decide)) (fun _ => r.1.2) (fun z => absurd z (by decide)) (fun z => absurd z (by decide)) (fun z => absurd z (by decide)) (fun z => absurd z (by decide)) (fun z => absurd z (by decide)) (fun z => absurd z (by decide))) (le1 r.2 (by decide)))
theorem s271_939 (X : XS) (h : H2) (Q : Option Value → H2 → Prop) (i : Nat) (hi : i + 8 ≤ X.1) (hX : X.1 ≤ 4096) (iv : Inv h) (nx : ∀ h2, Inv h2 → h2.1 ≤ h.1 + 1 → E X 271 18 [some (.ref 0), some (.ref 5), some (.ref 86), some (.int (nI (i + 8)))] [] h2 Q) : E X 271 939 [some (.ref 0), some (.ref 5), some (.ref 86), some (.int (nI i))] [] h Q := by
  have e8 : nI i + 8 = nI (i + 8) := by rw [← nI_add]; rfl
  have b1 := bnd (L := X.1) (i := i) 1 (z := 1) (by decide) hi hX (by omega)
  have b2 := bnd (L := X.1) (i := i) 2 (z := 2) (by decide) hi hX (by omega)
  rw [g271_939]
  simp only [b1, b2, if_false, e8]
  exact fnI (by decide +kernel) (c_came X h iv.2.2.2.2.1 _ _) (fun h2 r => nx h2 (Inv_W iv r.2 (fun z => absurd z (by decide)) (fun z => absurd z (by decide)) (fun z => absurd z (by decide)) (fun z => absurd z (by decide)) (fun _ => r.1) (fun z => absurd z (by decide)) (fun z => absurd z (by decide)) (fun z => absurd z (by decide)) (fun z => absurd z (by decide)) (fun z => absurd z (by decide)) (fun z => absurd z (by decide))) (le1 r.2 (by decide)))
theorem s271_972 (X : XS) (h : H2) (Q : Option Value → H2 → Prop) (i : Nat) (hi : i + 8 ≤ X.1) (hX : X.1 ≤ 4096) (iv : Inv h) (nx : ∀ h2, Inv h2 → h2.1 ≤ h.1 + 1 → E X 271 18 [some (.ref 0), some (.ref 5), some (.ref 86), some (.int (nI (i + 8)))] [] h2 Q) : E X 271 972 [some (.ref 0), some (.ref 5), some (.ref 86), some (.int (nI i))] [] h Q := by
  have e8 : nI i + 8 = nI (i + 8) := by rw [← nI_add]; rfl
  have b1 := bnd (L := X.1) (i := i) 1 (z := 1) (by decide) hi hX (by omega)
  rw [g271_972]
  simp only [b1, if_false, e8]
  exact fnI (by decide +kernel) (c_meets X h iv.2.2.2.2.1 _) (fun h2 r => nx h2 (Inv_W iv r.2 (fun z => absurd z (by decide)) (fun z => absurd z (by decide)) (fun z => absurd z (by decide)) (fun z => absurd z (by decide)) (fun _ => r.1) (fun z => absurd z (by decide)) (fun z => absurd z (by decide)) (fun z => absurd z (by decide)) (fun z => absurd z (by decide)) (fun z => absurd z (by decide)) (fun z => absurd z (by decide))) (le1 r.2 (by decide)))
theorem s271_995 (X : XS) (h : H2) (Q : Option Value → H2 → Prop) (i : Nat) (hi : i + 8 ≤ X.1) (hX : X.1 ≤ 4096) (iv : Inv h) (nx : ∀ h2, Inv h2 → h2.1 ≤ h.1 + 1 → E X 271 18 [some (.ref 0), some (.ref 5), some (.ref 86), some (.int (nI (i + 8)))] [] h2 Q) : E X 271 995 [some (.ref 0), some (.ref 5), some (.ref 86), some (.int (nI i))] [] h Q := by
  have e8 : nI i + 8 = nI (i + 8) := by rw [← nI_add]; rfl
  rw [g271_995]
  rw [e8]
  exact fnI (by decide +kernel) (c_worlds X h iv.2.2.2.2.1) (fun h2 r => nx h2 (Inv_W iv r.2 (fun z => absurd z (by decide)) (fun z => absurd z (by decide)) (fun z => absurd z (by decide)) (fun z => absurd z (by decide)) (fun _ => r.1) (fun z => absurd z (by decide)) (fun z => absurd z (by decide)) (fun z => absurd z (by decide)) (fun z => absurd z (by decide)) (fun z => absurd z (by decide)) (fun z => absurd z (by decide))) (le1 r.2 (by decide)))
theorem s271_1008 (X : XS) (h : H2) (Q : Option Value → H2 → Prop) (i : Nat) (hi : i + 8 ≤ X.1) (hX : X.1 ≤ 4096) (iv : Inv h) (nx : ∀ h2, Inv h2 → h2.1 ≤ h.1 + 1 → E X 271 18 [some (.ref 0), some (.ref 5), some (.ref 86), some (.int (nI (i + 8)))] [] h2 Q) : E X 271 1008 [some (.ref 0), some (.ref 5), some (.ref 86), some (.int (nI i))] [] h Q := by
  have e8 : nI i + 8 = nI (i + 8) := by rw [← nI_add]; rfl
  have b1 := bnd (L := X.1) (i := i) 1 (z := 1) (by decide) hi hX (by omega)
  have b2 := bnd (L := X.1) (i := i) 2 (z := 2) (by decide) hi hX (by omega)
  rw [g271_1008]
  simp only [b1, b2, if_false, e8]
  exact fnI (by decide +kernel) (c_sure X h iv.2.2.2.2.1 _ _) (fun h2 r => nx h2 (Inv_W iv r.2 (fun z => absurd z (by decide)) (fun z => absurd z (by decide)) (fun z => absurd z (by decide)) (fun z => absurd z (by decide)) (fun _ => r.1) (fun z => absurd z (by decide)) (fun z => absurd z (by decide)) (fun z => absurd z (by decide)) (fun z => absurd z (by decide)) (fun z => absurd z (by decide)) (fun z => absurd z (by decide))) (le1 r.2 (by decide)))
theorem s271_1041 (X : XS) (h : H2) (Q : Option Value → H2 → Prop) (i : Nat) (hi : i + 8 ≤ X.1) (hX : X.1 ≤ 4096) (iv : Inv h) (nx : ∀ h2, Inv h2 → h2.1 ≤ h.1 + 1 → E X 271 18 [some (.ref 0), some (.ref 5), some (.ref 86), some (.int (nI (i + 8)))] [] h2 Q) : E X 271 1041 [some (.ref 0), some (.ref 5), some (.ref 86), some (.int (nI i))] [] h Q := by
  have e8 : nI i + 8 = nI (i + 8) := by rw [← nI_add]; rfl
  have b1 := bnd (L := X.1) (i := i) 1 (z := 1) (by decide) hi hX (by omega)
  have b2 := bnd (L := X.1) (i := i) 2 (z := 2) (by decide) hi hX (by omega)
  rw [g271_1041]
  simp only [b1, b2, if_false, e8]
  exact fnI (by decide +kernel) (c_cask X h iv.2.2.2.2.2.1 _ _) (fun h2 r => nx h2 (Inv_W iv r.2 (fun z => absurd z (by decide)) (fun z => absurd z (by decide)) (fun z => absurd z (by decide)) (fun z => absurd z (by decide)) (fun z => absurd z (by decide)) (fun _ => r.1) (fun z => absurd z (by decide)) (fun z => absurd z (by decide)) (fun z => absurd z (by decide)) (fun z => absurd z (by decide)) (fun z => absurd z (by decide))) (le1 r.2 (by decide)))
theorem s271_1074 (X : XS) (h : H2) (Q : Option Value → H2 → Prop) (i : Nat) (hi : i + 8 ≤ X.1) (hX : X.1 ≤ 4096) (iv : Inv h) (nx : ∀ h2, Inv h2 → h2.1 ≤ h.1 + 1 → E X 271 18 [some (.ref 0), some (.ref 5), some (.ref 86), some (.int (nI (i + 8)))] [] h2 Q) : E X 271 1074 [some (.ref 0), some (.ref 5), some (.ref 86), some (.int (nI i))] [] h Q := by
  have e8 : nI i + 8 = nI (i + 8) := by rw [← nI_add]; rfl
  rw [g271_1074]
  rw [e8]
  exact fnI (by decide +kernel) (c_person X h iv.2.2.2.2.2.1) (fun h2 r => nx h2 (Inv_W iv r.2 (fun z => absurd z (by decide)) (fun z => absurd z (by decide)) (fun z => absurd z (by decide)) (fun z => absurd z (by decide)) (fun z => absurd z (by decide)) (fun _ => r.1) (fun z => absurd z (by decide)) (fun z => absurd z (by decide)) (fun z => absurd z (by decide)) (fun z => absurd z (by decide)) (fun z => absurd z (by decide))) (le1 r.2 (by decide)))
theorem s271_1087 (X : XS) (h : H2) (Q : Option Value → H2 → Prop) (i : Nat) (hi : i + 8 ≤ X.1) (hX : X.1 ≤ 4096) (iv : Inv h) (nx : ∀ h2, Inv h2 → h2.1 ≤ h.1 + 1 → E X 271 18 [some (.ref 0), some (.ref 5), some (.ref 86), some (.int (nI (i + 8)))] [] h2 Q) : E X 271 1087 [some (.ref 0), some (.ref 5), some (.ref 86), some (.int (nI i))] [] h Q := by
  have e8 : nI i + 8 = nI (i + 8) := by rw [← nI_add]; rfl
  have b1 := bnd (L := X.1) (i := i) 1 (z := 1) (by decide) hi hX (by omega)
  have b2 := bnd (L := X.1) (i := i) 2 (z := 2) (by decide) hi hX (by omega)
  have b3 := bnd (L := X.1) (i := i) 3 (z := 3) (by decide) hi hX (by omega)
  rw [g271_1087]
  simp only [b1, b2, b3, if_false, e8]
  exact fnI (by decide +kernel) (c_drank X h iv.2.2.2.2.2.1 _ _ _) (fun h2 r => nx h2 (Inv_W iv r.2 (fun z => absurd z (by decide)) (fun z => absurd z (by decide)) (fun z => absurd z (by decide)) (fun z => absurd z (by decide)) (fun z => absurd z (by decide)) (fun _ => r.1) (fun z => absurd z (by decide)) (fun z => absurd z (by decide)) (fun z => absurd z (by decide)) (fun z => absurd z (by decide)) (fun z => absurd z (by decide))) (le1 r.2 (by decide)))
theorem s271_1130 (X : XS) (h : H2) (Q : Option Value → H2 → Prop) (i : Nat) (hi : i + 8 ≤ X.1) (hX : X.1 ≤ 4096) (iv : Inv h) (nx : ∀ h2, Inv h2 → h2.1 ≤ h.1 + 1 → E X 271 18 [some (.ref 0), some (.ref 5), some (.ref 86), some (.int (nI (i + 8)))] [] h2 Q) : E X 271 1130 [some (.ref 0), some (.ref 5), some (.ref 86), some (.int (nI i))] [] h Q := by
  have e8 : nI i + 8 = nI (i + 8) := by rw [← nI_add]; rfl
  have b1 := bnd (L := X.1) (i := i) 1 (z := 1) (by decide) hi hX (by omega)
  have b2 := bnd (L := X.1) (i := i) 2 (z := 2) (by decide) hi hX (by omega)
  have b3 := bnd (L := X.1) (i := i) 3 (z := 3) (by decide) hi hX (by omega)
  rw [g271_1130]
  by_cases q : stv X.2 0 (nI i + 2).toNatClampNeg = 0
  · simp only [b1, b2, b3, q, if_false, if_true, e8]
    exact fnI (by decide +kernel) (c_fell X h iv.2.2.2.2.2.1 _ _ _ (Or.inl rfl)) (fun h2 r => nx h2 (Inv_W iv r.2 (fun z => absurd z (by decide)) (fun z => absurd z (by decide)) (fun z => absurd z (by decide)) (fun z => absurd z (by decide)) (fun z => absurd z (by decide)) (fun _ => r.1) (fun z => absurd z (by decide)) (fun z => absurd z (by decide)) (fun z => absurd z (by decide)) (fun z => absurd z (by decide)) (fun z => absurd z (by decide))) (le1 r.2 (by decide)))
  · simp only [b1, b2, b3, q, if_false, if_true, e8]
    exact fnI (by decide +kernel) (c_fell X h iv.2.2.2.2.2.1 _ _ _ (Or.inr rfl)) (fun h2 r => nx h2 (Inv_W iv r.2 (fun z => absurd z (by decide)) (fun z => absurd z (by decide)) (fun z => absurd z (by decide)) (fun z => absurd z (by decide)) (fun z => absurd z (by decide)) (fun _ => r.1) (fun z => absurd z (by decide)) (fun z => absurd z (by decide)) (fun z => absurd z (by decide)) (fun z => absurd z (by decide)) (fun z => absurd z (by decide))) (le1 r.2 (by decide)))
theorem s271_1189 (X : XS) (h : H2) (Q : Option Value → H2 → Prop) (i : Nat) (hi : i + 8 ≤ X.1) (hX : X.1 ≤ 4096) (iv : Inv h) (nx : ∀ h2, Inv h2 → h2.1 ≤ h.1 + 1 → E X 271 18 [some (.ref 0), some (.ref 5), some (.ref 86), some (.int (nI (i + 8)))] [] h2 Q) : E X 271 1189 [some (.ref 0), some (.ref 5), some (.ref 86), some (.int (nI i))] [] h Q := by
  have e8 : nI i + 8 = nI (i + 8) := by rw [← nI_add]; rfl
  have b1 := bnd (L := X.1) (i := i) 1 (z := 1) (by decide) hi hX (by omega)
  have b2 := bnd (L := X.1) (i := i) 2 (z := 2) (by decide) hi hX (by omega)
  rw [g271_1189]
  simp only [b1, b2, if_false, e8]
  exact fnI (by decide +kernel) (c_cut X h iv.2.2.2.2.2.1 _ _) (fun h2 r => nx h2 (Inv_W iv r.2 (fun z => absurd z (by decide)) (fun z => absurd z (by decide)) (fun z => absurd z (by decide)) (fun z => absurd z (by decide)) (fun z => absurd z (by decide)) (fun _ => r.1) (fun z => absurd z (by decide)) (fun z => absurd z (by decide)) (fun z => absurd z (by decide)) (fun z => absurd z (by decide)) (fun z => absurd z (by decide))) (le1 r.2 (by decide)))
theorem s271_1222 (X : XS) (h : H2) (Q : Option Value → H2 → Prop) (i : Nat) (hi : i + 8 ≤ X.1) (hX : X.1 ≤ 4096) (iv : Inv h) (nx : ∀ h2, Inv h2 → h2.1 ≤ h.1 + 1 → E X 271 18 [some (.ref 0), some (.ref 5), some (.ref 86), some (.int (nI (i + 8)))] [] h2 Q) : E X 271 1222 [some (.ref 0), some (.ref 5), some (.ref 86), some (.int (nI i))] [] h Q := by
  have e8 : nI i + 8 = nI (i + 8) := by rw [← nI_add]; rfl
  have b1 := bnd (L := X.1) (i := i) 1 (z := 1) (by decide) hi hX (by omega)
  rw [g271_1222]
  simp only [b1, if_false, e8]
  exact fnI (by decide +kernel) (c_knew X h iv.2.2.2.2.2.1 _) (fun h2 r => nx h2 (Inv_W iv r.2 (fun z => absurd z (by decide)) (fun z => absurd z (by decide)) (fun z => absurd z (by decide)) (fun z => absurd z (by decide)) (fun z => absurd z (by decide)) (fun _ => r.1) (fun z => absurd z (by decide)) (fun z => absurd z (by decide)) (fun z => absurd z (by decide)) (fun z => absurd z (by decide)) (fun z => absurd z (by decide))) (le1 r.2 (by decide)))
theorem s271_1245 (X : XS) (h : H2) (Q : Option Value → H2 → Prop) (i : Nat) (hi : i + 8 ≤ X.1) (hX : X.1 ≤ 4096) (iv : Inv h) (nx : ∀ h2, Inv h2 → h2.1 ≤ h.1 + 1 → E X 271 18 [some (.ref 0), some (.ref 5), some (.ref 86), some (.int (nI (i + 8)))] [] h2 Q) : E X 271 1245 [some (.ref 0), some (.ref 5), some (.ref 86), some (.int (nI i))] [] h Q := by
  have e8 : nI i + 8 = nI (i + 8) := by rw [← nI_add]; rfl
  have b1 := bnd (L := X.1) (i := i) 1 (z := 1) (by decide) hi hX (by omega)
  rw [g271_1245]
  by_cases q : stv X.2 0 (nI i + 1).toNatClampNeg = 0
  · simp only [b1, q, if_false, if_true, e8]
    exact fnI (by decide +kernel) (c_raid X h iv.2.2.2.2.2.2.1 _) (fun h2 r => nx h2 (Inv_W iv r.2 (fun z => absurd z (by decide)) (fun z => absurd z (by decide)) (fun z => absurd z (by decide)) (fun z => absurd z (by decide)) (fun z => absurd z (by decide)) (fun z => absurd z (by decide)) (fun _ => r.1) (fun z => absurd z (by decide)) (fun z => absurd z (by decide)) (fun z => absurd z (by decide)) (fun z => absurd z (by decide))) (le1 r.2 (by decide)))
  · simp only [b1, q, if_false, if_true, e8]
    exact fnI (by decide +kernel) (c_raid X h iv.2.2.2.2.2.2.1 _) (fun h2 r => nx h2 (Inv_W iv r.2 (fun z => absurd z (by decide)) (fun z => absurd z (by decide)) (fun z => absurd z (by decide)) (fun z => absurd z (by decide)) (fun z => absurd z (by decide)) (fun z => absurd z (by decide)) (fun _ => r.1) (fun z => absurd z (by decide)) (fun z => absurd z (by decide)) (fun z => absurd z (by decide)) (fun z => absurd z (by decide))) (le1 r.2 (by decide)))
theorem s271_1284 (X : XS) (h : H2) (Q : Option Value → H2 → Prop) (i : Nat) (hi : i + 8 ≤ X.1) (hX : X.1 ≤ 4096) (iv : Inv h) (nx : ∀ h2, Inv h2 → h2.1 ≤ h.1 + 1 → E X 271 18 [some (.ref 0), some (.ref 5), some (.ref 86), some (.int (nI (i + 8)))] [] h2 Q) : E X 271 1284 [some (.ref 0), some (.ref 5), some (.ref 86), some (.int (nI i))] [] h Q := by
  have e8 : nI i + 8 = nI (i + 8) := by rw [← nI_add]; rfl
  have b1 := bnd (L := X.1) (i := i) 1 (z := 1) (by decide) hi hX (by omega)
  rw [g271_1284]
  simp only [b1, if_false, e8]
  exact fnI (by decide +kernel) (c_paper X h iv.2.2.2.2.2.2.1 _) (fun h2 r => nx h2 (Inv_W iv r.2 (fun z => absurd z (by decide)) (fun z => absurd z (by decide)) (fun z => absurd z (by decide)) (fun z => absurd z (by decide)) (fun z => absurd z (by decide)) (fun z => absurd z (by decide)) (fun _ => r.1) (fun z => absurd z (by decide)) (fun z => absurd z (by decide)) (fun z => absurd z (by decide)) (fun z => absurd z (by decide))) (le1 r.2 (by decide)))
theorem s271_1307 (X : XS) (h : H2) (Q : Option Value → H2 → Prop) (i : Nat) (hi : i + 8 ≤ X.1) (hX : X.1 ≤ 4096) (iv : Inv h) (nx : ∀ h2, Inv h2 → h2.1 ≤ h.1 + 1 → E X 271 18 [some (.ref 0), some (.ref 5), some (.ref 86), some (.int (nI (i + 8)))] [] h2 Q) : E X 271 1307 [some (.ref 0), some (.ref 5), some (.ref 86), some (.int (nI i))] [] h Q := by
  have e8 : nI i + 8 = nI (i + 8) := by rw [← nI_add]; rfl
  have b1 := bnd (L := X.1) (i := i) 1 (z := 1) (by decide) hi hX (by omega)
  have b2 := bnd (L := X.1) (i := i) 2 (z := 2) (by decide) hi hX (by omega)
  rw [g271_1307]
  by_cases q : stv X.2 0 (nI i + 2).toNatClampNeg = 0
  · simp only [b1, b2, q, if_false, if_true, e8]
    exact fnI (by decide +kernel) (c_met X h iv.2.2.2.2.2.2.1 _ _) (fun h2 r => nx h2 (Inv_W iv r.2 (fun z => absurd z (by decide)) (fun z => absurd z (by decide)) (fun z => absurd z (by decide)) (fun z => absurd z (by decide)) (fun z => absurd z (by decide)) (fun z => absurd z (by decide)) (fun _ => r.1) (fun z => absurd z (by decide)) (fun z => absurd z (by decide)) (fun z => absurd z (by decide)) (fun z => absurd z (by decide))) (le1 r.2 (by decide)))
  · simp only [b1, b2, q, if_false, if_true, e8]
    exact fnI (by decide +kernel) (c_met X h iv.2.2.2.2.2.2.1 _ _) (fun h2 r => nx h2 (Inv_W iv r.2 (fun z => absurd z (by decide)) (fun z => absurd z (by decide)) (fun z => absurd z (by decide)) (fun z => absurd z (by decide)) (fun z => absurd z (by decide)) (fun z => absurd z (by decide)) (fun _ => r.1) (fun z => absurd z (by decide)) (fun z => absurd z (by decide)) (fun z => absurd z (by decide)) (fun z => absurd z (by decide))) (le1 r.2 (by decide)))
theorem s271_1356 (X : XS) (h : H2) (Q : Option Value → H2 → Prop) (i : Nat) (hi : i + 8 ≤ X.1) (hX : X.1 ≤ 4096) (iv : Inv h) (nx : ∀ h2, Inv h2 → h2.1 ≤ h.1 + 1 → E X 271 18 [some (.ref 0), some (.ref 5), some (.ref 86), some (.int (nI (i + 8)))] [] h2 Q) : E X 271 1356 [some (.ref 0), some (.ref 5), some (.ref 86), some (.int (nI i))] [] h Q := by
  have e8 : nI i + 8 = nI (i + 8) := by rw [← nI_add]; rfl
  rw [g271_1356]
  rw [e8]
  exact fnI (by decide +kernel) (c_voids X h iv.2.2.2.2.2.2.1) (fun h2 r => nx h2 (Inv_W iv r.2 (fun z => absurd z (by decide)) (fun z => absurd z (by decide)) (fun z => absurd z (by decide)) (fun z => absurd z (by decide)) (fun z => absurd z (by decide)) (fun z => absurd z (by decide)) (fun _ => r.1) (fun z => absurd z (by decide)) (fun z => absurd z (by decide)) (fun z => absurd z (by decide)) (fun z => absurd z (by decide))) (le1 r.2 (by decide)))
theorem s271_1369 (X : XS) (h : H2) (Q : Option Value → H2 → Prop) (i : Nat) (hi : i + 8 ≤ X.1) (hX : X.1 ≤ 4096) (iv : Inv h) (nx : ∀ h2, Inv h2 → h2.1 ≤ h.1 + 1 → E X 271 18 [some (.ref 0), some (.ref 5), some (.ref 86), some (.int (nI (i + 8)))] [] h2 Q) : E X 271 1369 [some (.ref 0), some (.ref 5), some (.ref 86), some (.int (nI i))] [] h Q := by
  have e8 : nI i + 8 = nI (i + 8) := by rw [← nI_add]; rfl
  have b1 := bnd (L := X.1) (i := i) 1 (z := 1) (by decide) hi hX (by omega)
  rw [g271_1369]
  simp only [b1, if_false, e8]
  exact fnI (by decide +kernel) (c_saved X h iv.2.2.2.2.2.2.1 _) (fun h2 r => nx h2 (Inv_W iv r.2 (fun z => absurd z (by decide)) (fun z => absurd z (by decide)) (fun z => absurd z (by decide)) (fun z => absurd z (by decide)) (fun z => absurd z (by decide)) (fun z => absurd z (by decide)) (fun _ => r.1) (fun z => absurd z (by decide)) (fun z => absurd z (by decide)) (fun z => absurd z (by decide)) (fun z => absurd z (by decide))) (le1 r.2 (by decide)))
theorem s271_1392 (X : XS) (h : H2) (Q : Option Value → H2 → Prop) (i : Nat) (hi : i + 8 ≤ X.1) (hX : X.1 ≤ 4096) (iv : Inv h) (nx : ∀ h2, Inv h2 → h2.1 ≤ h.1 + 1 → E X 271 18 [some (.ref 0), some (.ref 5), some (.ref 86), some (.int (nI (i + 8)))] [] h2 Q) : E X 271 1392 [some (.ref 0), some (.ref 5), some (.ref 86), some (.int (nI i))] [] h Q := by
  have e8 : nI i + 8 = nI (i + 8) := by rw [← nI_add]; rfl
  rw [g271_1392]
  rw [e8]
  exact fnI (by decide +kernel) (c_worst X h iv.2.2.2.2.2.2.1) (fun h2 r => nx h2 (Inv_W iv r.2 (fun z => absurd z (by decide)) (fun z => absurd z (by decide)) (fun z => absurd z (by decide)) (fun z => absurd z (by decide)) (fun z => absurd z (by decide)) (fun z => absurd z (by decide)) (fun _ => r.1) (fun z => absurd z (by decide)) (fun z => absurd z (by decide)) (fun z => absurd z (by decide)) (fun z => absurd z (by decide))) (le1 r.2 (by decide)))
theorem s271_1405 (X : XS) (h : H2) (Q : Option Value → H2 → Prop) (i : Nat) (hi : i + 8 ≤ X.1) (hX : X.1 ≤ 4096) (iv : Inv h) (nx : ∀ h2, Inv h2 → h2.1 ≤ h.1 + 1 → E X 271 18 [some (.ref 0), some (.ref 5), some (.ref 86), some (.int (nI (i + 8)))] [] h2 Q) : E X 271 1405 [some (.ref 0), some (.ref 5), some (.ref 86), some (.int (nI i))] [] h Q := by
  have e8 : nI i + 8 = nI (i + 8) := by rw [← nI_add]; rfl
  have b1 := bnd (L := X.1) (i := i) 1 (z := 1) (by decide) hi hX (by omega)
  have b2 := bnd (L := X.1) (i := i) 2 (z := 2) (by decide) hi hX (by omega)
  rw [g271_1405]
  simp only [b1, b2, if_false, e8]
  exact fnI (by decide +kernel) (c_court X h iv.2.2.2.2.2.2.2.1 _ _) (fun h2 r => nx h2 (Inv_W iv r.2 (fun z => absurd z (by decide)) (fun z => absurd z (by decide)) (fun z => absurd z (by decide)) (fun z => absurd z (by decide)) (fun z => absurd z (by decide)) (fun z => absurd z (by decide)) (fun z => absurd z (by decide)) (fun _ => r.1) (fun z => absurd z (by decide)) (fun z => absurd z (by decide)) (fun z => absurd z (by decide))) (le1 r.2 (by decide)))
theorem s271_1438 (X : XS) (h : H2) (Q : Option Value → H2 → Prop) (i : Nat) (hi : i + 8 ≤ X.1) (hX : X.1 ≤ 4096) (iv : Inv h) (nx : ∀ h2, Inv h2 → h2.1 ≤ h.1 + 1 → E X 271 18 [some (.ref 0), some (.ref 5), some (.ref 86), some (.int (nI (i + 8)))] [] h2 Q) : E X 271 1438 [some (.ref 0), some (.ref 5), some (.ref 86), some (.int (nI i))] [] h Q := by
  have e8 : nI i + 8 = nI (i + 8) := by rw [← nI_add]; rfl
  have b1 := bnd (L := X.1) (i := i) 1 (z := 1) (by decide) hi hX (by omega)
  have b2 := bnd (L := X.1) (i := i) 2 (z := 2) (by decide) hi hX (by omega)
  have b3 := bnd (L := X.1) (i := i) 3 (z := 3) (by decide) hi hX (by omega)
  rw [g271_1438]
  simp only [b1, b2, b3, if_false, e8]
  exact fnI (by decide +kernel) (c_sue X h iv.2.2.2.2.2.2.2.1 _ _ _) (fun h2 r => nx h2 (Inv_W iv r.2 (fun z => absurd z (by decide)) (fun z => absurd z (by decide)) (fun z => absurd z (by decide)) (fun z => absurd z (by decide)) (fun z => absurd z (by decide)) (fun z => absurd z (by decide)) (fun z => absurd z (by decide)) (fun _ => r.1) (fun z => absurd z (by decide)) (fun z => absurd z (by decide)) (fun z => absurd z (by decide))) (le1 r.2 (by decide)))
theorem s271_1481 (X : XS) (h : H2) (Q : Option Value → H2 → Prop) (i : Nat) (hi : i + 8 ≤ X.1) (hX : X.1 ≤ 4096) (iv : Inv h) (nx : ∀ h2, Inv h2 → h2.1 ≤ h.1 + 1 → E X 271 18 [some (.ref 0), some (.ref 5), some (.ref 86), some (.int (nI (i + 8)))] [] h2 Q) : E X 271 1481 [some (.ref 0), some (.ref 5), some (.ref 86), some (.int (nI i))] [] h Q := by
  have e8 : nI i + 8 = nI (i + 8) := by rw [← nI_add]; rfl
  have b1 := bnd (L := X.1) (i := i) 1 (z := 1) (by decide) hi hX (by omega)
  have b2 := bnd (L := X.1) (i := i) 2 (z := 2) (by decide) hi hX (by omega)
  rw [g271_1481]
  simp only [b1, b2, if_false, e8]
  exact fnI (by decide +kernel) (c_heard X h iv.2.2.2.2.2.2.2.1 _ _) (fun h2 r => nx h2 (Inv_W iv r.2 (fun z => absurd z (by decide)) (fun z => absurd z (by decide)) (fun z => absurd z (by decide)) (fun z => absurd z (by decide)) (fun z => absurd z (by decide)) (fun z => absurd z (by decide)) (fun z => absurd z (by decide)) (fun _ => r.1) (fun z => absurd z (by decide)) (fun z => absurd z (by decide)) (fun z => absurd z (by decide))) (le1 r.2 (by decide)))
theorem s271_1514 (X : XS) (h : H2) (Q : Option Value → H2 → Prop) (i : Nat) (hi : i + 8 ≤ X.1) (hX : X.1 ≤ 4096) (iv : Inv h) (nx : ∀ h2, Inv h2 → h2.1 ≤ h.1 + 1 → E X 271 18 [some (.ref 0), some (.ref 5), some (.ref 86), some (.int (nI (i + 8)))] [] h2 Q) : E X 271 1514 [some (.ref 0), some (.ref 5), some (.ref 86), some (.int (nI i))] [] h Q := by
  have e8 : nI i + 8 = nI (i + 8) := by rw [← nI_add]; rfl
  have b1 := bnd (L := X.1) (i := i) 1 (z := 1) (by decide) hi hX (by omega)
  rw [g271_1514]
  simp only [b1, if_false, e8]
  exact fnI (by decide +kernel) (c_waiting X h iv.2.2.2.2.2.2.2.1 _) (fun h2 r => nx h2 (Inv_W iv r.2 (fun z => absurd z (by decide)) (fun z => absurd z (by decide)) (fun z => absurd z (by decide)) (fun z => absurd z (by decide)) (fun z => absurd z (by decide)) (fun z => absurd z (by decide)) (fun z => absurd z (by decide)) (fun _ => r.1) (fun z => absurd z (by decide)) (fun z => absurd z (by decide)) (fun z => absurd z (by decide))) (le1 r.2 (by decide)))
theorem s271_1537 (X : XS) (h : H2) (Q : Option Value → H2 → Prop) (i : Nat) (hi : i + 8 ≤ X.1) (hX : X.1 ≤ 4096) (iv : Inv h) (nx : ∀ h2, Inv h2 → h2.1 ≤ h.1 + 1 → E X 271 18 [some (.ref 0), some (.ref 5), some (.ref 86), some (.int (nI (i + 8)))] [] h2 Q) : E X 271 1537 [some (.ref 0), some (.ref 5), some (.ref 86), some (.int (nI i))] [] h Q := by
  have e8 : nI i + 8 = nI (i + 8) := by rw [← nI_add]; rfl
  have b1 := bnd (L := X.1) (i := i) 1 (z := 1) (by decide) hi hX (by omega)
  have b2 := bnd (L := X.1) (i := i) 2 (z := 2) (by decide) hi hX (by omega)
  rw [g271_1537]
  simp only [b1, b2, if_false, e8]
  exact fnI (by decide +kernel) (c_juror X h iv.2.2.2.2.2.2.2.2.1 _ _) (fun h2 r => nx h2 (Inv_W iv r.2 (fun z => absurd z (by decide)) (fun z => absurd z (by decide)) (fun z => absurd z (by decide)) (fun z => absurd z (by decide)) (fun z => absurd z (by decide)) (fun z => absurd z (by decide)) (fun z => absurd z (by decide)) (fun z => absurd z (by decide)) (fun _ => r.1) (fun z => absurd z (by decide)) (fun z => absurd z (by decide))) (le1 r.2 (by decide)))
theorem s271_1570 (X : XS) (h : H2) (Q : Option Value → H2 → Prop) (i : Nat) (hi : i + 8 ≤ X.1) (hX : X.1 ≤ 4096) (iv : Inv h) (nx : ∀ h2, Inv h2 → h2.1 ≤ h.1 + 1 → E X 271 18 [some (.ref 0), some (.ref 5), some (.ref 86), some (.int (nI (i + 8)))] [] h2 Q) : E X 271 1570 [some (.ref 0), some (.ref 5), some (.ref 86), some (.int (nI i))] [] h Q := by
  have e8 : nI i + 8 = nI (i + 8) := by rw [← nI_add]; rfl
  rw [g271_1570]
  rw [e8]
  exact fnI (by decide +kernel) (c_dismiss X h iv.2.2.2.2.2.2.2.2.1) (fun h2 r => nx h2 (Inv_W iv r.2 (fun z => absurd z (by decide)) (fun z => absurd z (by decide)) (fun z => absurd z (by decide)) (fun z => absurd z (by decide)) (fun z => absurd z (by decide)) (fun z => absurd z (by decide)) (fun z => absurd z (by decide)) (fun z => absurd z (by decide)) (fun _ => r.1) (fun z => absurd z (by decide)) (fun z => absurd z (by decide))) (le1 r.2 (by decide)))
theorem s271_1583 (X : XS) (h : H2) (Q : Option Value → H2 → Prop) (i : Nat) (hi : i + 8 ≤ X.1) (hX : X.1 ≤ 4096) (iv : Inv h) (nx : ∀ h2, Inv h2 → h2.1 ≤ h.1 + 1 → E X 271 18 [some (.ref 0), some (.ref 5), some (.ref 86), some (.int (nI (i + 8)))] [] h2 Q) : E X 271 1583 [some (.ref 0), some (.ref 5), some (.ref 86), some (.int (nI i))] [] h Q := by
  have e8 : nI i + 8 = nI (i + 8) := by rw [← nI_add]; rfl
  have b1 := bnd (L := X.1) (i := i) 1 (z := 1) (by decide) hi hX (by omega)
  have b2 := bnd (L := X.1) (i := i) 2 (z := 2) (by decide) hi hX (by omega)
  rw [g271_1583]
  simp only [b1, b2, if_false, e8]
  exact fnJ (by decide +kernel) (c_jury X h iv.2.2.2.2.2.2.2.2.1 _ _) (fun h2 r => nx h2 (Inv_W iv r.2 (fun z => absurd z (by decide)) (fun z => absurd z (by decide)) (fun z => absurd z (by decide)) (fun z => absurd z (by decide)) (fun z => absurd z (by decide)) (fun z => absurd z (by decide)) (fun z => absurd z (by decide)) (fun z => absurd z (by decide)) (fun _ => r.1) (fun z => absurd z (by decide)) (fun z => absurd z (by decide))) (le1 r.2 (by decide)))
theorem s271_1617 (X : XS) (h : H2) (Q : Option Value → H2 → Prop) (i : Nat) (hi : i + 8 ≤ X.1) (hX : X.1 ≤ 4096) (iv : Inv h) (nx : ∀ h2, Inv h2 → h2.1 ≤ h.1 + 1 → E X 271 18 [some (.ref 0), some (.ref 5), some (.ref 86), some (.int (nI (i + 8)))] [] h2 Q) : E X 271 1617 [some (.ref 0), some (.ref 5), some (.ref 86), some (.int (nI i))] [] h Q := by
  have e8 : nI i + 8 = nI (i + 8) := by rw [← nI_add]; rfl
  have b1 := bnd (L := X.1) (i := i) 1 (z := 1) (by decide) hi hX (by omega)
  rw [g271_1617]
  simp only [b1, if_false, e8]
  exact fnI (by decide +kernel) (c_miles X h iv.2.2.2.2.2.2.2.2.2.1 _) (fun h2 r => nx h2 (Inv_W iv r.2 (fun z => absurd z (by decide)) (fun z => absurd z (by decide)) (fun z => absurd z (by decide)) (fun z => absurd z (by decide)) (fun z => absurd z (by decide)) (fun z => absurd z (by decide)) (fun z => absurd z (by decide)) (fun z => absurd z (by decide)) (fun z => absurd z (by decide)) (fun _ => r.1) (fun z => absurd z (by decide))) (le1 r.2 (by decide)))
theorem s271_1640 (X : XS) (h : H2) (Q : Option Value → H2 → Prop) (i : Nat) (hi : i + 8 ≤ X.1) (hX : X.1 ≤ 4096) (iv : Inv h) (nx : ∀ h2, Inv h2 → h2.1 ≤ h.1 + 1 → E X 271 18 [some (.ref 0), some (.ref 5), some (.ref 86), some (.int (nI (i + 8)))] [] h2 Q) : E X 271 1640 [some (.ref 0), some (.ref 5), some (.ref 86), some (.int (nI i))] [] h Q := by
  have e8 : nI i + 8 = nI (i + 8) := by rw [← nI_add]; rfl
  have b1 := bnd (L := X.1) (i := i) 1 (z := 1) (by decide) hi hX (by omega)
  have b2 := bnd (L := X.1) (i := i) 2 (z := 2) (by decide) hi hX (by omega)
  have b3 := bnd (L := X.1) (i := i) 3 (z := 3) (by decide) hi hX (by omega)
  have b4 := bnd (L := X.1) (i := i) 4 (z := 4) (by decide) hi hX (by omega)
  have b5 := bnd (L := X.1) (i := i) 5 (z := 5) (by decide) hi hX (by omega)
  have b6 := bnd (L := X.1) (i := i) 6 (z := 6) (by decide) hi hX (by omega)
  have b7 := bnd (L := X.1) (i := i) 7 (z := 7) (by decide) hi hX (by omega)
  rw [g271_1640]
  simp only [b1, b2, b3, b4, b5, b6, b7, if_false, e8]
  exact fnI (by decide +kernel) (c_chase X h iv.2.2.2.2.2.2.2.2.2.1 _ _ _ _ _ _ _) (fun h2 r => nx h2 (Inv_W iv r.2 (fun z => absurd z (by decide)) (fun z => absurd z (by decide)) (fun z => absurd z (by decide)) (fun z => absurd z (by decide)) (fun z => absurd z (by decide)) (fun z => absurd z (by decide)) (fun z => absurd z (by decide)) (fun z => absurd z (by decide)) (fun z => absurd z (by decide)) (fun _ => r.1) (fun z => absurd z (by decide))) (le1 r.2 (by decide)))
theorem s271_1727 (X : XS) (h : H2) (Q : Option Value → H2 → Prop) (i : Nat) (hi : i + 8 ≤ X.1) (hX : X.1 ≤ 4096) (iv : Inv h) (nx : ∀ h2, Inv h2 → h2.1 ≤ h.1 + 1 → E X 271 18 [some (.ref 0), some (.ref 5), some (.ref 86), some (.int (nI (i + 8)))] [] h2 Q) : E X 271 1727 [some (.ref 0), some (.ref 5), some (.ref 86), some (.int (nI i))] [] h Q := by
  have e8 : nI i + 8 = nI (i + 8) := by rw [← nI_add]; rfl
  have b1 := bnd (L := X.1) (i := i) 1 (z := 1) (by decide) hi hX (by omega)
  have b2 := bnd (L := X.1) (i := i) 2 (z := 2) (by decide) hi hX (by omega)
  rw [g271_1727]
  simp only [b1, b2, if_false, e8]
  exact fnI (by decide +kernel) (c_town X h iv.2.2.2.2.2.2.2.2.2.2 _ _) (fun h2 r => nx h2 (Inv_W iv r.2 (fun z => absurd z (by decide)) (fun z => absurd z (by decide)) (fun z => absurd z (by decide)) (fun z => absurd z (by decide)) (fun z => absurd z (by decide)) (fun z => absurd z (by decide)) (fun z => absurd z (by decide)) (fun z => absurd z (by decide)) (fun z => absurd z (by decide)) (fun z => absurd z (by decide)) (fun _ => r.1)) (le1 r.2 (by decide)))
theorem s271_1760 (X : XS) (h : H2) (Q : Option Value → H2 → Prop) (i : Nat) (hi : i + 8 ≤ X.1) (hX : X.1 ≤ 4096) (iv : Inv h) (nx : ∀ h2, Inv h2 → h2.1 ≤ h.1 + 1 → E X 271 18 [some (.ref 0), some (.ref 5), some (.ref 86), some (.int (nI (i + 8)))] [] h2 Q) : E X 271 1760 [some (.ref 0), some (.ref 5), some (.ref 86), some (.int (nI i))] [] h Q := by
  have e8 : nI i + 8 = nI (i + 8) := by rw [← nI_add]; rfl
  have b1 := bnd (L := X.1) (i := i) 1 (z := 1) (by decide) hi hX (by omega)
  have b2 := bnd (L := X.1) (i := i) 2 (z := 2) (by decide) hi hX (by omega)
  rw [g271_1760]
  simp only [b1, b2, if_false, e8]
  exact fnI (by decide +kernel) (c_week X h iv.2.2.2.2.2.2.2.2.2.2 _ _) (fun h2 r => nx h2 (Inv_W iv r.2 (fun z => absurd z (by decide)) (fun z => absurd z (by decide)) (fun z => absurd z (by decide)) (fun z => absurd z (by decide)) (fun z => absurd z (by decide)) (fun z => absurd z (by decide)) (fun z => absurd z (by decide)) (fun z => absurd z (by decide)) (fun z => absurd z (by decide)) (fun z => absurd z (by decide)) (fun _ => r.1)) (le1 r.2 (by decide)))
theorem s271_1793 (X : XS) (h : H2) (Q : Option Value → H2 → Prop) (i : Nat) (hi : i + 8 ≤ X.1) (hX : X.1 ≤ 4096) (iv : Inv h) (nx : ∀ h2, Inv h2 → h2.1 ≤ h.1 + 1 → E X 271 18 [some (.ref 0), some (.ref 5), some (.ref 86), some (.int (nI (i + 8)))] [] h2 Q) : E X 271 1793 [some (.ref 0), some (.ref 5), some (.ref 86), some (.int (nI i))] [] h Q := by
  have e8 : nI i + 8 = nI (i + 8) := by rw [← nI_add]; rfl
  have b1 := bnd (L := X.1) (i := i) 1 (z := 1) (by decide) hi hX (by omega)
  have b2 := bnd (L := X.1) (i := i) 2 (z := 2) (by decide) hi hX (by omega)
  rw [g271_1793]
  simp only [b1, b2, if_false, e8]
  exact fnI (by decide +kernel) (c_ofTown X h iv.2.2.2.2.2.2.2.2.2.2 _ _) (fun h2 r => nx h2 (Inv_W iv r.2 (fun z => absurd z (by decide)) (fun z => absurd z (by decide)) (fun z => absurd z (by decide)) (fun z => absurd z (by decide)) (fun z => absurd z (by decide)) (fun z => absurd z (by decide)) (fun z => absurd z (by decide)) (fun z => absurd z (by decide)) (fun z => absurd z (by decide)) (fun z => absurd z (by decide)) (fun _ => r.1)) (le1 r.2 (by decide)))
theorem s271_1826 (X : XS) (h : H2) (Q : Option Value → H2 → Prop) (i : Nat) (hi : i + 8 ≤ X.1) (hX : X.1 ≤ 4096) (iv : Inv h) (nx : ∀ h2, Inv h2 → h2.1 ≤ h.1 + 1 → E X 271 18 [some (.ref 0), some (.ref 5), some (.ref 86), some (.int (nI (i + 8)))] [] h2 Q) : E X 271 1826 [some (.ref 0), some (.ref 5), some (.ref 86), some (.int (nI i))] [] h Q := by
  have e8 : nI i + 8 = nI (i + 8) := by rw [← nI_add]; rfl
  have b1 := bnd (L := X.1) (i := i) 1 (z := 1) (by decide) hi hX (by omega)
  have b2 := bnd (L := X.1) (i := i) 2 (z := 2) (by decide) hi hX (by omega)
  have b3 := bnd (L := X.1) (i := i) 3 (z := 3) (by decide) hi hX (by omega)
  rw [g271_1826]
  simp only [b1, b2, b3, if_false, e8]
  exact fnI (by decide +kernel) (c_sheet X h iv.1 _ _ _) (fun h2 r => nx h2 (Inv_W iv r.2 (fun _ => r.1) (fun z => absurd z (by decide)) (fun z => absurd z (by decide)) (fun z => absurd z (by decide)) (fun z => absurd z (by decide)) (fun z => absurd z (by decide)) (fun z => absurd z (by decide)) (fun z => absurd z (by decide)) (fun z => absurd z (by decide)) (fun z => absurd z (by decide)) (fun z => absurd z (by decide))) (le1 r.2 (by decide)))
theorem s271_1869 (X : XS) (h : H2) (Q : Option Value → H2 → Prop) (i : Nat) (hi : i + 8 ≤ X.1) (hX : X.1 ≤ 4096) (iv : Inv h) (nx : ∀ h2, Inv h2 → h2.1 ≤ h.1 + 1 → E X 271 18 [some (.ref 0), some (.ref 5), some (.ref 86), some (.int (nI (i + 8)))] [] h2 Q) : E X 271 1869 [some (.ref 0), some (.ref 5), some (.ref 86), some (.int (nI i))] [] h Q := by
  have e8 : nI i + 8 = nI (i + 8) := by rw [← nI_add]; rfl
  have b1 := bnd (L := X.1) (i := i) 1 (z := 1) (by decide) hi hX (by omega)
  rw [g271_1869]
  simp only [b1, if_false, e8]
  exact fnI (by decide +kernel) (c_lose X h iv.1 _) (fun h2 r => nx h2 (Inv_W iv r.2 (fun _ => r.1) (fun z => absurd z (by decide)) (fun z => absurd z (by decide)) (fun z => absurd z (by decide)) (fun z => absurd z (by decide)) (fun z => absurd z (by decide)) (fun z => absurd z (by decide)) (fun z => absurd z (by decide)) (fun z => absurd z (by decide)) (fun z => absurd z (by decide)) (fun z => absurd z (by decide))) (le1 r.2 (by decide)))
theorem s271_1892 (X : XS) (h : H2) (Q : Option Value → H2 → Prop) (i : Nat) (hi : i + 8 ≤ X.1) (hX : X.1 ≤ 4096) (iv : Inv h) (nx : ∀ h2, Inv h2 → h2.1 ≤ h.1 + 1 → E X 271 18 [some (.ref 0), some (.ref 5), some (.ref 86), some (.int (nI (i + 8)))] [] h2 Q) : E X 271 1892 [some (.ref 0), some (.ref 5), some (.ref 86), some (.int (nI i))] [] h Q := by
  have e8 : nI i + 8 = nI (i + 8) := by rw [← nI_add]; rfl
  have b1 := bnd (L := X.1) (i := i) 1 (z := 1) (by decide) hi hX (by omega)
  have b2 := bnd (L := X.1) (i := i) 2 (z := 2) (by decide) hi hX (by omega)
  have b3 := bnd (L := X.1) (i := i) 3 (z := 3) (by decide) hi hX (by omega)
  rw [g271_1892]
  simp only [b1, b2, b3, if_false, e8]
  exact fnI (by decide +kernel) (c_put X h iv.1 _ _ _) (fun h2 r => nx h2 (Inv_W iv r.2 (fun _ => r.1) (fun z => absurd z (by decide)) (fun z => absurd z (by decide)) (fun z => absurd z (by decide)) (fun z => absurd z (by decide)) (fun z => absurd z (by decide)) (fun z => absurd z (by decide)) (fun z => absurd z (by decide)) (fun z => absurd z (by decide)) (fun z => absurd z (by decide)) (fun z => absurd z (by decide))) (le1 r.2 (by decide)))
theorem s271_1935 (X : XS) (h : H2) (Q : Option Value → H2 → Prop) (i : Nat) (hi : i + 8 ≤ X.1) (hX : X.1 ≤ 4096) (iv : Inv h) (nx : ∀ h2, Inv h2 → h2.1 ≤ h.1 + 1 → E X 271 18 [some (.ref 0), some (.ref 5), some (.ref 86), some (.int (nI (i + 8)))] [] h2 Q) : E X 271 1935 [some (.ref 0), some (.ref 5), some (.ref 86), some (.int (nI i))] [] h Q := by
  have e8 : nI i + 8 = nI (i + 8) := by rw [← nI_add]; rfl
  have b1 := bnd (L := X.1) (i := i) 1 (z := 1) (by decide) hi hX (by omega)
  have b2 := bnd (L := X.1) (i := i) 2 (z := 2) (by decide) hi hX (by omega)
  have b3 := bnd (L := X.1) (i := i) 3 (z := 3) (by decide) hi hX (by omega)
  rw [g271_1935]
  simp only [b1, b2, b3, if_false, e8]
  exact fnJ (by decide +kernel) (c_cell X h iv.1 _ _ _) (fun h2 r => nx h2 (Inv_W iv r.2 (fun _ => r.1) (fun z => absurd z (by decide)) (fun z => absurd z (by decide)) (fun z => absurd z (by decide)) (fun z => absurd z (by decide)) (fun z => absurd z (by decide)) (fun z => absurd z (by decide)) (fun z => absurd z (by decide)) (fun z => absurd z (by decide)) (fun z => absurd z (by decide)) (fun z => absurd z (by decide))) (le1 r.2 (by decide)))
theorem s271_1979 (X : XS) (h : H2) (Q : Option Value → H2 → Prop) (i : Nat) (hi : i + 8 ≤ X.1) (hX : X.1 ≤ 4096) (iv : Inv h) (nx : ∀ h2, Inv h2 → h2.1 ≤ h.1 + 1 → E X 271 18 [some (.ref 0), some (.ref 5), some (.ref 86), some (.int (nI (i + 8)))] [] h2 Q) : E X 271 1979 [some (.ref 0), some (.ref 5), some (.ref 86), some (.int (nI i))] [] h Q := by
  have e8 : nI i + 8 = nI (i + 8) := by rw [← nI_add]; rfl
  have b1 := bnd (L := X.1) (i := i) 1 (z := 1) (by decide) hi hX (by omega)
  rw [g271_1979]
  simp only [b1, if_false, e8]
  exact fnI (by decide +kernel) (c_tell X h iv.2.2.2.2.2.1 _) (fun h2 r => nx h2 (Inv_W iv r.2 (fun z => absurd z (by decide)) (fun z => absurd z (by decide)) (fun z => absurd z (by decide)) (fun z => absurd z (by decide)) (fun z => absurd z (by decide)) (fun _ => r.1) (fun z => absurd z (by decide)) (fun z => absurd z (by decide)) (fun z => absurd z (by decide)) (fun z => absurd z (by decide)) (fun z => absurd z (by decide))) (le1 r.2 (by decide)))
theorem s271_2002 (X : XS) (h : H2) (Q : Option Value → H2 → Prop) (i : Nat) (hi : i + 8 ≤ X.1) (hX : X.1 ≤ 4096) (iv : Inv h) (nx : ∀ h2, Inv h2 → h2.1 ≤ h.1 + 1 → E X 271 18 [some (.ref 0), some (.ref 5), some (.ref 86), some (.int (nI (i + 8)))] [] h2 Q) : E X 271 2002 [some (.ref 0), some (.ref 5), some (.ref 86), some (.int (nI i))] [] h Q := by
  have e8 : nI i + 8 = nI (i + 8) := by rw [← nI_add]; rfl
  have b1 := bnd (L := X.1) (i := i) 1 (z := 1) (by decide) hi hX (by omega)
  rw [g271_2002]
  simp only [b1, if_false, e8]
  exact fnI (by decide +kernel) (c_hang X h iv.2.2.2.2.2.1 _) (fun h2 r => nx h2 (Inv_W iv r.2 (fun z => absurd z (by decide)) (fun z => absurd z (by decide)) (fun z => absurd z (by decide)) (fun z => absurd z (by decide)) (fun z => absurd z (by decide)) (fun _ => r.1) (fun z => absurd z (by decide)) (fun z => absurd z (by decide)) (fun z => absurd z (by decide)) (fun z => absurd z (by decide)) (fun z => absurd z (by decide))) (le1 r.2 (by decide)))
theorem s271_2025 (X : XS) (h : H2) (Q : Option Value → H2 → Prop) (i : Nat) (hi : i + 8 ≤ X.1) (hX : X.1 ≤ 4096) (iv : Inv h) (nx : ∀ h2, Inv h2 → h2.1 ≤ h.1 + 1 → E X 271 18 [some (.ref 0), some (.ref 5), some (.ref 86), some (.int (nI (i + 8)))] [] h2 Q) : E X 271 2025 [some (.ref 0), some (.ref 5), some (.ref 86), some (.int (nI i))] [] h Q := by
  have e8 : nI i + 8 = nI (i + 8) := by rw [← nI_add]; rfl
  have b1 := bnd (L := X.1) (i := i) 1 (z := 1) (by decide) hi hX (by omega)
  have b2 := bnd (L := X.1) (i := i) 2 (z := 2) (by decide) hi hX (by omega)
  rw [g271_2025]
  simp only [b1, b2, if_false, e8]
  exact fnI (by decide +kernel) (c_as X h ⟨iv.1, iv.2.2.2.2.2.1⟩ _ _) (fun h2 r => nx h2 (Inv_W iv r.2 (fun _ => r.1.1) (fun z => absurd z (by decide)) (fun z => absurd z (by decide)) (fun z => absurd z (by decide)) (fun z => absurd z (by decide)) (fun _ => r.1.2) (fun z => absurd z (by decide)) (fun z => absurd z (by decide)) (fun z => absurd z (by decide)) (fun z => absurd z (by decide)) (fun z => absurd z (by decide))) (le1 r.2 (by decide)))
theorem s271_2058 (X : XS) (h : H2) (Q : Option Value → H2 → Prop) (i : Nat) (hi : i + 8 ≤ X.1) (hX : X.1 ≤ 4096) (iv : Inv h) (nx : ∀ h2, Inv h2 → h2.1 ≤ h.1 + 1 → E X 271 18 [some (.ref 0), some (.ref 5), some (.ref 86), some (.int (nI (i + 8)))] [] h2 Q) : E X 271 2058 [some (.ref 0), some (.ref 5), some (.ref 86), some (.int (nI i))] [] h Q := by
  have e8 : nI i + 8 = nI (i + 8) := by rw [← nI_add]; rfl
  rw [g271_2058]
  rw [e8]
  exact fnI (by decide +kernel) (c_trace X h iv.2.2.2.2.2.1) (fun h2 r => nx h2 (Inv_W iv r.2 (fun z => absurd z (by decide)) (fun z => absurd z (by decide)) (fun z => absurd z (by decide)) (fun z => absurd z (by decide)) (fun z => absurd z (by decide)) (fun _ => r.1) (fun z => absurd z (by decide)) (fun z => absurd z (by decide)) (fun z => absurd z (by decide)) (fun z => absurd z (by decide)) (fun z => absurd z (by decide))) (le1 r.2 (by decide)))
theorem s271_2071 (X : XS) (h : H2) (Q : Option Value → H2 → Prop) (i : Nat) (hi : i + 8 ≤ X.1) (hX : X.1 ≤ 4096) (iv : Inv h) (nx : ∀ h2, Inv h2 → h2.1 ≤ h.1 + 1 → E X 271 18 [some (.ref 0), some (.ref 5), some (.ref 86), some (.int (nI (i + 8)))] [] h2 Q) : E X 271 2071 [some (.ref 0), some (.ref 5), some (.ref 86), some (.int (nI i))] [] h Q := by
  have e8 : nI i + 8 = nI (i + 8) := by rw [← nI_add]; rfl
  rw [g271_2071]
  rw [e8]
  exact fnI (by decide +kernel) (c_fault X h iv.1) (fun h2 r => nx h2 (Inv_W iv r.2 (fun _ => r.1) (fun z => absurd z (by decide)) (fun z => absurd z (by decide)) (fun z => absurd z (by decide)) (fun z => absurd z (by decide)) (fun z => absurd z (by decide)) (fun z => absurd z (by decide)) (fun z => absurd z (by decide)) (fun z => absurd z (by decide)) (fun z => absurd z (by decide)) (fun z => absurd z (by decide))) (le1 r.2 (by decide)))
theorem s271_2084 (X : XS) (h : H2) (Q : Option Value → H2 → Prop) (i : Nat) (hi : i + 8 ≤ X.1) (hX : X.1 ≤ 4096) (iv : Inv h) (nx : ∀ h2, Inv h2 → h2.1 ≤ h.1 + 1 → E X 271 18 [some (.ref 0), some (.ref 5), some (.ref 86), some (.int (nI (i + 8)))] [] h2 Q) : E X 271 2084 [some (.ref 0), some (.ref 5), some (.ref 86), some (.int (nI i))] [] h Q := by
  have e8 : nI i + 8 = nI (i + 8) := by rw [← nI_add]; rfl
  have b1 := bnd (L := X.1) (i := i) 1 (z := 1) (by decide) hi hX (by omega)
  rw [g271_2084]
  simp only [b1, if_false, e8]
  exact fnI (by decide +kernel) (c_many X h iv _) (fun h2 r => nx h2 (Inv_W iv r (fun z => absurd z (by decide)) (fun z => absurd z (by decide)) (fun z => absurd z (by decide)) (fun z => absurd z (by decide)) (fun z => absurd z (by decide)) (fun z => absurd z (by decide)) (fun z => absurd z (by decide)) (fun z => absurd z (by decide)) (fun z => absurd z (by decide)) (fun z => absurd z (by decide)) (fun z => absurd z (by decide))) (le1 r (by decide)))
