theorem whole_start {p : Program} {e : Env} {s : State} {m : MethodId} {below : List Frame} {meth : Method} {c : Code} (l : Launch) (hst : l.stackTraces = false) {b L : Nat} {xs : Nat → Int32} (hL : L ≤ 4) (C0 : lw_At p s m meth c b L xs) : W p l e room_1 s m #[Value.ref b] below meth c s.heap [] 0 0 (lw_Z below #[Value.ref b] s) (entryFrame m ([Value.ref b] : List Value).toArray 7) := by
  obtain ⟨N, h⟩ : ∃ N : Nat, 70000 ≤ N := ⟨70000, Nat.le_refl _⟩
  have h20 : 20 ≤ N := Nat.le_trans (by decide) h
  exact law_start l hst C0 N 2 (by decide) (q1_x_fill N h20) (q1_x_add N h20) (q1_x_place1 N h20) (q1_x_place2c N h20) (q1_law_p1r L hL xs N h _ (q1_upd_same _ _ _ rfl))
