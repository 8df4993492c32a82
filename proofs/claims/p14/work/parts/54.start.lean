theorem whole_start {p : Program} {e : Env} {s : State} {m : MethodId} {below : List Frame} {meth : Method} {c : Code} (l : Launch) (hst : l.stackTraces = false) {b L : Nat} {xs : Nat → Int32} (hL : L ≤ 2048) (C0 : lw_At p s m meth c b L xs) : W p l e room_1 s m #[Value.ref b] below meth c s.heap [] 0 0 (lw_Z below #[Value.ref b] s) (entryFrame m ([Value.ref b] : List Value).toArray 7) := by
  obtain ⟨N, h⟩ : ∃ N : Nat, 110000 ≤ N := ⟨110000, Nat.le_refl _⟩
  have h20 : 20 ≤ N := Nat.le_trans (by decide) h
  have hr : ∀ r : Nat → Int32, r = q1_O → f_L_law_23 L xs N 600 0 0 0 0 0 0 0 q1_O 0 0 q1_O 2400 q1_O q1_O q1_OL q1_O 0 0 0 0 0 q1_O 12000 q1_O q1_O 0 q1_O 4000 q1_OL q1_O q1_O q1_O 0 0 q1_O q1_O q1_O 1 q1_O 4000 0 q1_O 4000 q1_O q1_B8 q1_O q1_O 0 2 1 0 0 0 0 0 0 0 0 0 0 0 0 0 q1_K2 q1_O q1_O q1_M2 q1_O q1_O q1_T2 r q1_O q1_O q1_O q1_O q1_B8 q1_OL q1_OL q1_OL q1_O q1_O q1_OL 0 = some 1 := by
    intro r hr
    subst hr
    have := law_loop L hL xs N h 600 0 fT 2 0 0 0 0 0 0 q1_O 0 0 q1_O q1_O q1_O q1_OL q1_O 0 0 0 0 0 q1_O 12000 q1_O q1_O 0 q1_O q1_OL q1_O q1_O q1_O 0 0 q1_O q1_O q1_O 1 q1_O 0 q1_O q1_O q1_B8 q1_O q1_O 0 0 0 0 0 0 0 0 0 0 0 0 q1_K2 q1_O q1_O q1_M2 q1_O q1_O q1_T2 q1_O q1_O q1_O q1_O q1_OL q1_OL q1_OL q1_O q1_O q1_OL q1_LI (by omega) (by omega)
    rw [q1_fv] at this
    exact this
  exact law_start l hst C0 N 600 (by decide) (q1_x_fill N h20) (q1_x_add N h20) (q1_x_place1 N h20) (q1_x_place2c N h20) (hr _ (q1_v4 0))
