/-! the law's loop -/
theorem sub8 (L : Nat) : nI (L + 8) - 8 = nI L := by
  rw [← nI_add, show nI 8 = (8 : Int32) by decide]
  exact Int32.add_sub_cancel _ _
theorem lt8 : ∀ L, L < 8 → nI L - 8 < 0 := by decide +kernel
theorem law_loop (X : XS) (hX : X.1 ≤ 4096) : ∀ m k h, X.1 ≤ 8 * k + 8 * m → 8 * k ≤ 4096 → h.1 ≤ 137 + k → Inv h → E X 271 18 [some (.ref 0), some (.ref 5), some (.ref 86), some (.int (nI (8 * k)))] [] h (fun v h' => v = some (.int 1) ∧ h'.1 ≤ 1000) := by
  intro m
  have ex : ∀ k, 8 * k ≤ 4096 → (Int32.ofNat X.1 - 8 < nI (8 * k) ↔ X.1 < 8 * k + 8) := by
    intro k hk
    show nI X.1 - 8 < nI (8 * k) ↔ _
    by_cases q : X.1 < 8
    · exact ⟨fun _ => by omega, fun _ => Int32.lt_of_lt_of_le (lt8 _ q) (nI_pos' (by omega))⟩
    · obtain ⟨L', e⟩ : ∃ L', X.1 = L' + 8 := ⟨X.1 - 8, by omega⟩
      rw [e, sub8, nI_ltI (by omega) (by omega)]
      omega
  induction m with
  | zero =>
    intro k h h1 h2 h3 iv
    rw [g271_18, if_pos ((ex k h2).mpr (by omega))]
    exact ⟨rfl, by omega⟩
  | succ m ih =>
    intro k h h1 h2 h3 iv
    rw [g271_18]
    by_cases q : X.1 < 8 * k + 8
    · rw [if_pos ((ex k h2).mpr q)]
      exact ⟨rfl, by omega⟩
    have hi : 8 * k + 8 ≤ X.1 := by omega
    rw [if_neg (fun z => q ((ex k h2).mp z)), nI_clamp (by omega), if_neg (fun z => z.elim (nI_pos (by omega)) (by omega))]
    have nx : ∀ h2 : H2, Inv h2 → h2.1 ≤ h.1 + 1 → E X 271 18 [some (.ref 0), some (.ref 5), some (.ref 86), some (.int (nI (8 * k + 8)))] [] h2 (fun v h' => v = some (.int 1) ∧ h'.1 ≤ 1000) := fun h2 iv2 hle => ih (k + 1) h2 (by omega) (by omega) (by omega) iv2
    refine ite_p (fun _ => s271_260 X h _ (8 * k) hi hX iv nx) (fun _ => ?_)
    refine ite_p (fun _ => s271_313 X h _ (8 * k) hi hX iv nx) (fun _ => ?_)
    refine ite_p (fun _ => s271_346 X h _ (8 * k) hi hX iv nx) (fun _ => ?_)
    refine ite_p (fun _ => s271_379 X h _ (8 * k) hi hX iv nx) (fun _ => ?_)
    refine ite_p (fun _ => s271_442 X h _ (8 * k) hi hX iv nx) (fun _ => ?_)
    refine ite_p (fun _ => s271_505 X h _ (8 * k) hi hX iv nx) (fun _ => ?_)
    refine ite_p (fun _ => s271_528 X h _ (8 * k) hi hX iv nx) (fun _ => ?_)
    refine ite_p (fun _ => s271_603 X h _ (8 * k) hi hX iv nx) (fun _ => ?_)
    refine ite_p (fun _ => s271_636 X h _ (8 * k) hi hX iv nx) (fun _ => ?_)
    refine ite_p (fun _ => s271_699 X h _ (8 * k) hi hX iv nx) (fun _ => ?_)
    refine ite_p (fun _ => s271_722 X h _ (8 * k) hi hX iv nx) (fun _ => ?_)
    refine ite_p (fun _ => s271_765 X h _ (8 * k) hi hX iv nx) (fun _ => ?_)
    refine ite_p (fun _ => s271_778 X h _ (8 * k) hi hX iv nx) (fun _ => ?_)
    refine ite_p (fun _ => s271_811 X h _ (8 * k) hi hX iv nx) (fun _ => ?_)
    refine ite_p (fun _ => s271_864 X h _ (8 * k) hi hX iv nx) (fun _ => ?_)
    refine ite_p (fun _ => s271_939 X h _ (8 * k) hi hX iv nx) (fun _ => ?_)
    refine ite_p (fun _ => s271_972 X h _ (8 * k) hi hX iv nx) (fun _ => ?_)
    refine ite_p (fun _ => s271_995 X h _ (8 * k) hi hX iv nx) (fun _ => ?_)
    refine ite_p (fun _ => s271_1008 X h _ (8 * k) hi hX iv nx) (fun _ => ?_)
    refine ite_p (fun _ => s271_1041 X h _ (8 * k) hi hX iv nx) (fun _ => ?_)
    refine ite_p (fun _ => s271_1074 X h _ (8 * k) hi hX iv nx) (fun _ => ?_)
    refine ite_p (fun _ => s271_1087 X h _ (8 * k) hi hX iv nx) (fun _ => ?_)
    refine ite_p (fun _ => s271_1130 X h _ (8 * k) hi hX iv nx) (fun _ => ?_)
    refine ite_p (fun _ => s271_1189 X h _ (8 * k) hi hX iv nx) (fun _ => ?_)
    refine ite_p (fun _ => s271_1222 X h _ (8 * k) hi hX iv nx) (fun _ => ?_)
    refine ite_p (fun _ => s271_1245 X h _ (8 * k) hi hX iv nx) (fun _ => ?_)
    refine ite_p (fun _ => s271_1284 X h _ (8 * k) hi hX iv nx) (fun _ => ?_)
    refine ite_p (fun _ => s271_1307 X h _ (8 * k) hi hX iv nx) (fun _ => ?_)
    refine ite_p (fun _ => s271_1356 X h _ (8 * k) hi hX iv nx) (fun _ => ?_)
    refine ite_p (fun _ => s271_1369 X h _ (8 * k) hi hX iv nx) (fun _ => ?_)
    refine ite_p (fun _ => s271_1392 X h _ (8 * k) hi hX iv nx) (fun _ => ?_)
    refine ite_p (fun _ => s271_1405 X h _ (8 * k) hi hX iv nx) (fun _ => ?_)
    refine ite_p (fun _ => s271_1438 X h _ (8 * k) hi hX iv nx) (fun _ => ?_)
    refine ite_p (fun _ => s271_1481 X h _ (8 * k) hi hX iv nx) (fun _ => ?_)
    refine ite_p (fun _ => s271_1514 X h _ (8 * k) hi hX iv nx) (fun _ => ?_)
    refine ite_p (fun _ => s271_1537 X h _ (8 * k) hi hX iv nx) (fun _ => ?_)
    refine ite_p (fun _ => s271_1570 X h _ (8 * k) hi hX iv nx) (fun _ => ?_)
    refine ite_p (fun _ => s271_1583 X h _ (8 * k) hi hX iv nx) (fun _ => ?_)
    refine ite_p (fun _ => s271_1617 X h _ (8 * k) hi hX iv nx) (fun _ => ?_)
    refine ite_p (fun _ => s271_1640 X h _ (8 * k) hi hX iv nx) (fun _ => ?_)
    refine ite_p (fun _ => s271_1727 X h _ (8 * k) hi hX iv nx) (fun _ => ?_)
    refine ite_p (fun _ => s271_1760 X h _ (8 * k) hi hX iv nx) (fun _ => ?_)
    refine ite_p (fun _ => s271_1793 X h _ (8 * k) hi hX iv nx) (fun _ => ?_)
    refine ite_p (fun _ => s271_1826 X h _ (8 * k) hi hX iv nx) (fun _ => ?_)
    refine ite_p (fun _ => s271_1869 X h _ (8 * k) hi hX iv nx) (fun _ => ?_)
    refine ite_p (fun _ => s271_1892 X h _ (8 * k) hi hX iv nx) (fun _ => ?_)
    refine ite_p (fun _ => s271_1935 X h _ (8 * k) hi hX iv nx) (fun _ => ?_)
    refine ite_p (fun _ => s271_1979 X h _ (8 * k) hi hX iv nx) (fun _ => ?_)
    refine ite_p (fun _ => s271_2002 X h _ (8 * k) hi hX iv nx) (fun _ => ?_)
    refine ite_p (fun _ => s271_2025 X h _ (8 * k) hi hX iv nx) (fun _ => ?_)
    refine ite_p (fun _ => s271_2058 X h _ (8 * k) hi hX iv nx) (fun _ => ?_)
    refine ite_p (fun _ => s271_2071 X h _ (8 * k) hi hX iv nx) (fun _ => ?_)
    refine ite_p (fun _ => s271_2084 X h _ (8 * k) hi hX iv nx) (fun _ => ?_)
    rw [show nI (8 * k) + 8 = nI (8 * k + 8) from by rw [← nI_add]; rfl]
    exact nx h iv (by omega)

