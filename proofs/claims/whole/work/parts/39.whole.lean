theorem whole_HL (L : Nat) (xs : Nat → Int32) (hL : L ≤ 4096) : E (L, xs) 271 18 [some (.ref 0), some (.ref 5), some (.ref 86), some (.int 0)] [] hh0 (fun v h' => v = some (.int 1) ∧ h'.1 ≤ 1000) := by
  have := law_loop (L, xs) hL 512 0 hh0 (by show L ≤ _; omega) (by omega) (Nat.le_refl _) Inv_0
  rw [show nI (8 * 0) = (0 : Int32) by decide] at this
  exact this
theorem whole_start {p : Program} {e : Env} {s : State} {m : MethodId} {below : List Frame} {meth : Method} {c : Code} (l : Launch) {b L : Nat} {xs : Nat → Int32} (hL : L ≤ 4096) (C0 : lw_At p s m meth c b L xs) :
    W p l e room_1 s m #[Value.ref b] below meth c s.heap [] 0 0 (lw_Z below #[Value.ref b] s) (entryFrame m ([Value.ref b] : List Value).toArray 4) :=
  start_of whole_HL l hL C0
