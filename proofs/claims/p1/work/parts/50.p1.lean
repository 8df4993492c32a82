abbrev q1_O : Nat → Int32 := fun _ => 0
abbrev q1_OL : Nat → Int64 := fun _ => 0
abbrev q1_K2 : Nat → Int32 := upd q1_O 1 1
abbrev q1_M2 : Nat → Int32 := upd (upd q1_O 0 1) 1 1
abbrev q1_T2 : Nat → Int32 := upd (upd q1_O 0 1) 1455 2
abbrev q1_V1 : Nat → Int32 := upd (upd (upd q1_O 0 1) 1 1) 0 1
abbrev q1_V2 : Nat → Int32 := upd (upd q1_V1 0 0) 1 1
section SW
variable (kind left_ right_ many bits rows table roots moved : Nat → Int32) (row : Nat → Int64) (N n : Nat)
theorem q1_sw_2 : f_X7_sweep_2 N (n+3) 2 1 kind left_ right_ many bits rows table roots moved row 0 = f_X7_sweep_34 N N 2 1 kind left_ right_ many bits rows table roots (upd (upd moved 0 1) 1 1) row 0 := rfl
theorem q1_sw_34 : f_X7_sweep_34 N (n+2) 2 1 kind left_ right_ many bits rows table q1_O moved row 0 = f_X7_sweep_67 N N 2 1 kind left_ right_ many bits rows table q1_O (upd moved 0 1) row 1 := rfl
theorem q1_sw_67 : f_X7_sweep_67 N (n+3) 2 1 q1_K2 left_ right_ many bits rows table roots q1_V1 row 1 = f_X7_sweep_135 N N 2 1 q1_K2 left_ right_ many bits rows table roots q1_V1 row 0 0 := rfl
theorem q1_sw_135a : f_X7_sweep_135 (N+20) (n+1) 2 1 q1_K2 q1_O q1_O q1_M2 q1_O q1_O table roots q1_V1 row 0 0 = f_X7_sweep_135 (N+20) n 2 1 (upd q1_K2 0 0) (upd q1_O 0 0) (upd q1_O 0 0) (upd q1_M2 0 1) (upd q1_O 0 0) (upd (upd (upd (upd (upd (upd (upd (upd (upd q1_O 0 0) 1 0) 2 0) 3 0) 4 0) 5 0) 6 0) 7 0) 8 0) table roots (upd q1_V1 0 0) row 1 1 := rfl
theorem q1_sw_135b : f_X7_sweep_135 (N+20) (n+1) 2 1 q1_K2 q1_O q1_O q1_M2 q1_O q1_O table roots (upd q1_V1 0 0) row 1 1 = f_X7_sweep_135 (N+20) n 2 1 (upd q1_K2 1 1) (upd q1_O 1 0) (upd q1_O 1 0) (upd q1_M2 1 1) (upd q1_O 1 0) (upd (upd (upd (upd (upd (upd (upd (upd (upd q1_O 9 0) 10 0) 11 0) 12 0) 13 0) 14 0) 15 0) 16 0) 17 0) table roots q1_V2 row 2 2 := rfl
theorem q1_sw_135c : f_X7_sweep_135 N (n+1) 2 1 kind left_ right_ many bits rows table roots moved row 2 2 = f_X7_sweep_330 N N 2 1 kind left_ right_ many bits rows table roots moved row 0 := rfl
theorem q1_sw_330 : f_X7_sweep_330 N (n+2) 2 1 kind left_ right_ many bits rows table q1_O q1_V2 row 0 = f_X7_sweep_363 N N 2 1 kind left_ right_ many bits rows table (upd q1_O 0 0) q1_V2 row 0 := rfl
theorem q1_upd_same (f : Nat → Int32) (k : Nat) (x : Int32) (h : f k = x) : upd f k x = f := by
  funext j; unfold upd; split <;> simp_all
theorem q1_sw_363 (used rooted : Int32) : ∀ (d n : Nat) (table : Nat → Int32) (y : Int32), 0 ≤ y.toInt → y.toInt + d = 65536 → f_X7_sweep_363 N (n + d + 1) used rooted kind left_ right_ many bits rows table roots moved row y = f_X7_sweep_384 N N used rooted kind left_ right_ many bits rows (fun j => if y.toNatClampNeg ≤ j ∧ j < 65536 then 0 else table j) roots moved row 0
  | 0, n, table, y, h0, h => by
    have hy : y = 65536 := Int32.toInt_inj.mp (by rw [show (65536 : Int32).toInt = 65536 from rfl]; omega)
    subst hy
    have e : (fun j => if (65536 : Int32).toNatClampNeg ≤ j ∧ j < 65536 then 0 else table j) = table := by
      funext j
      rw [show (65536 : Int32).toNatClampNeg = 65536 from rfl, if_neg (by omega)]
    rw [e]; rfl
  | d + 1, n, table, y, h0, h => by
    have h1 : (y + 1).toInt = y.toInt + 1 := by
      rw [Int32.toInt_add, show (1 : Int32).toInt = 1 from rfl]
      exact Int.bmod_eq_of_le (by omega) (by omega)
    have hc : ¬ ((65536 : Int32) ≤ y) := by
      rw [Int32.le_iff_toInt_le, show (65536 : Int32).toInt = 65536 from rfl]; omega
    have hi : (decide (0 ≤ y.toInt) && decide (y.toInt < (65536 : Nat))) = true := by
      simp only [Bool.and_eq_true, decide_eq_true_eq]; omega
    rw [show n + (d + 1) + 1 = (n + d + 1) + 1 from by omega, f_X7_sweep_363]
    dsimp only
    rw [ifb, if_neg hc, ix, if_pos hi, q1_sw_363 used rooted d n _ (y + 1) (by omega) (by omega)]
    congr 1
    funext j
    have ha : y.toNatClampNeg = y.toInt.toNat := rfl
    have hb : (y + 1).toNatClampNeg = y.toInt.toNat + 1 := by show (y + 1).toInt.toNat = _; rw [h1]; omega
    rw [ha, hb]
    unfold upd
    by_cases hj : j = y.toInt.toNat
    · subst hj
      rw [if_neg (by omega), if_pos rfl, if_pos (by omega)]
    · rw [if_neg hj]
      by_cases hk : y.toInt.toNat + 1 ≤ j ∧ j < 65536
      · rw [if_pos hk, if_pos (by omega)]
      · rw [if_neg hk, if_neg (by omega)]
end SW
abbrev q1_T3 : Nat → Int32 := upd (upd (fun j => if (0 : Int32).toNatClampNeg ≤ j ∧ j < 65536 then 0 else q1_T2 j) 0 1) 1455 2
theorem q1_sw_384 (N : Nat) (h : 20 ≤ N) (row : Nat → Int64) (roots moved : Nat → Int32) : f_X7_sweep_384 N N 2 1 q1_K2 q1_O q1_O q1_M2 q1_O q1_O (fun j => if (0 : Int32).toNatClampNeg ≤ j ∧ j < 65536 then 0 else q1_T2 j) roots moved row 0 = some (2, q1_K2, q1_O, q1_O, q1_M2, q1_O, q1_O, q1_T3, roots, moved) := by
  obtain ⟨M, rfl⟩ := Nat.exists_eq_add_of_le' h
  rfl
theorem q1_sw_f (N : Nat) (h : 20 ≤ N) (row : Nat → Int64) : f_X7_sweep N 2 1 q1_K2 q1_O q1_O q1_M2 q1_O q1_O q1_T2 q1_O q1_O row = f_X7_sweep_363 N N 2 1 q1_K2 q1_O q1_O q1_M2 q1_O q1_O q1_T2 q1_O q1_V2 row 0 := by
  obtain ⟨N, rfl⟩ := Nat.exists_eq_add_of_le' h
  have u1 : upd q1_K2 0 0 = q1_K2 := q1_upd_same _ _ _ rfl
  have u3 : upd q1_M2 0 1 = q1_M2 := q1_upd_same _ _ _ rfl
  have v1 : upd q1_K2 1 1 = q1_K2 := q1_upd_same _ _ _ rfl
  have v3 : upd q1_M2 1 1 = q1_M2 := q1_upd_same _ _ _ rfl
  have v4 : ∀ k, upd q1_O k 0 = q1_O := fun k => q1_upd_same _ _ _ rfl
  rw [f_X7_sweep]
  refine (q1_sw_2 _ _ _ _ _ _ _ _ _ _ (N + 20) (N + 17)).trans ?_
  refine (q1_sw_34 _ _ _ _ _ _ _ _ _ (N + 20) (N + 18)).trans ?_
  refine (q1_sw_67 _ _ _ _ _ _ _ _ (N + 20) (N + 17)).trans ?_
  refine (q1_sw_135a _ _ _ N (N + 19)).trans ?_
  rw [u1, u3]
  simp only [v4]
  refine (q1_sw_135b _ _ _ N (N + 18)).trans ?_
  rw [v1, v3]
  simp only [v4]
  refine (q1_sw_135c _ _ _ _ _ _ _ _ _ _ (N + 20) (N + 17)).trans ?_
  refine (q1_sw_330 _ _ _ _ _ _ _ _ (N + 20) (N + 18)).trans ?_
  rw [v4]
theorem q1_sw_q (N : Nat) (h : 70000 ≤ N) (row : Nat → Int64) : f_X7_sweep_363 N N 2 1 q1_K2 q1_O q1_O q1_M2 q1_O q1_O q1_T2 q1_O q1_V2 row 0 = some (2, q1_K2, q1_O, q1_O, q1_M2, q1_O, q1_O, q1_T3, q1_O, q1_V2) := by
  have q := q1_sw_363 q1_K2 q1_O q1_O q1_M2 q1_O q1_O q1_O q1_V2 row N 2 1 65536 (N - 65537) q1_T2 0 (by decide) (by decide)
  rw [show N - 65537 + 65536 + 1 = N from by omega] at q
  exact q.trans (q1_sw_384 N (by omega) row q1_O q1_V2)
theorem q1_sw (N : Nat) (h : 70000 ≤ N) (row : Nat → Int64) : f_X7_sweep N 2 1 q1_K2 q1_O q1_O q1_M2 q1_O q1_O q1_T2 q1_O q1_O row = some (2, q1_K2, q1_O, q1_O, q1_M2, q1_O, q1_O, q1_T3, q1_O, q1_V2) := (q1_sw_f N (by omega) row).trans (q1_sw_q N h row)
theorem q1_x_place1 (N : Nat) (h : 20 ≤ N) : f_X7_place N 0 q1_O q1_O q1_O q1_O q1_O q1_O q1_O q1_OL 0 0 0 = some (0, 1, upd q1_O 0 0, upd q1_O 0 0,upd q1_O 0 0,upd q1_O 0 1,upd q1_O 0 0, q1_O, upd q1_O 0 1) := by
  obtain ⟨M, rfl⟩ := Nat.exists_eq_add_of_le' h
  rfl
theorem q1_x_place2 (N : Nat) (h : 20 ≤ N) : f_X7_place N 1 (upd q1_O 0 0) (upd q1_O 0 0) (upd q1_O 0 0) (upd q1_O 0 1) (upd q1_O 0 0) q1_O (upd q1_O 0 1) q1_OL 1 0 0 = some (1, 2, upd (upd q1_O 0 0) 1 1, upd (upd q1_O 0 0) 1 0, upd (upd q1_O 0 0) 1 0, q1_M2, upd (upd q1_O 0 0) 1 0, q1_O, upd (upd q1_O 0 1) 1455 2) := by
  obtain ⟨M, rfl⟩ := Nat.exists_eq_add_of_le' h
  rfl
abbrev q1_B8 : Nat → Int32 := upd (upd (upd (upd (upd (upd (upd (upd q1_O 0 1) 1 1) 2 1) 3 1) 4 1) 5 1) 6 1) 7 1
theorem q1_x_fill (N : Nat) (h : 20 ≤ N) : f_J7_fill_53178 N q1_O 8 1 = some q1_B8 := by
  obtain ⟨M, rfl⟩ := Nat.exists_eq_add_of_le' h
  rfl
theorem q1_x_add (N : Nat) (h : 20 ≤ N) : f_X5_add N 0 q1_O 4000 0 = some (1, q1_O) := by
  obtain ⟨M, rfl⟩ := Nat.exists_eq_add_of_le' h
  have v4 : ∀ k, upd q1_O k 0 = q1_O := fun k => q1_upd_same _ _ _ rfl
  have e : f_X5_add (M + 20) 0 q1_O 4000 0 = some (1, upd (upd (upd (upd (upd (upd (upd (upd (upd (upd (upd q1_O 0 0) 1 0) 2 0) 3 0) 4 0) 5 0) 6 0) 7 0) 8 0) 9 0) 0 0) := rfl
  rw [e]; simp only [v4]

set_option maxHeartbeats 4000000 in
theorem q1_g_X6_clear (N : Nat) (h : 20 ≤ N) : ∃ z, f_X6_clear N 0 = some z ∧ z.1 = 0 := by
  obtain ⟨M, rfl⟩ := Nat.exists_eq_add_of_le' h
  exact ⟨_, rfl, rfl⟩

set_option maxHeartbeats 4000000 in
theorem q1_g_X6_read (N : Nat) (h : 20 ≤ N) : ∃ z, f_X6_read N 0 0 0 0 0 0 0 q1_O 0 0 q1_O 2400 q1_O q1_O q1_OL q1_O 1 q1_O 4000 = some z ∧ z.1 = 0 := by
  obtain ⟨M, rfl⟩ := Nat.exists_eq_add_of_le' h
  exact ⟨_, rfl, rfl⟩

set_option maxHeartbeats 4000000 in
theorem q1_g_X6_frees (N : Nat) (h : 20 ≤ N) : ∃ z, f_X6_frees N 0 0 0 0 0 0 q1_O 12000 q1_O q1_O 0 q1_O 4000 q1_OL q1_O 1 q1_O 4000 = some z ∧ z.1 = 1 := by
  obtain ⟨M, rfl⟩ := Nat.exists_eq_add_of_le' h
  exact ⟨_, rfl, rfl⟩

set_option maxHeartbeats 4000000 in
theorem q1_g_X6_decide (N : Nat) (h : 20 ≤ N) : ∃ z, f_X6_decide N 0 0 0 0 0 0 q1_O 12000 q1_O q1_O 0 q1_O 4000 q1_OL q1_O q1_O q1_O 1 q1_O 4000 0 q1_O 4000 q1_O q1_B8 = some z ∧ z.1 = 1 := by
  obtain ⟨M, rfl⟩ := Nat.exists_eq_add_of_le' h
  exact ⟨_, rfl, rfl⟩

set_option maxHeartbeats 4000000 in
theorem q1_g_X6_not (N : Nat) (h : 20 ≤ N) : ∃ z, f_X6_not N 1 q1_O 4000 = some z ∧ z.1 = 1 := by
  obtain ⟨M, rfl⟩ := Nat.exists_eq_add_of_le' h
  exact ⟨_, rfl, rfl⟩

set_option maxHeartbeats 4000000 in
theorem q1_g_X6_write (N : Nat) (h : 20 ≤ N) : ∃ z, f_X6_write N 0 0 q1_O q1_O q1_O 1 q1_O 4000 = some z ∧ z.1 = 1 := by
  obtain ⟨M, rfl⟩ := Nat.exists_eq_add_of_le' h
  exact ⟨_, rfl, rfl⟩

set_option maxHeartbeats 4000000 in
theorem q1_g_X6_pass (N : Nat) (h : 20 ≤ N) : ∃ z, f_X6_pass N 0 q1_O 0 q1_O = some z ∧ z.1 = 0 := by
  obtain ⟨M, rfl⟩ := Nat.exists_eq_add_of_le' h
  exact ⟨_, rfl, rfl⟩

set_option maxHeartbeats 4000000 in
theorem q1_g_X7_clear (N : Nat) (h : 20 ≤ N) : ∃ z, f_X7_clear N 0 0 = some z ∧ z.1 = 0 := by
  obtain ⟨M, rfl⟩ := Nat.exists_eq_add_of_le' h
  exact ⟨_, rfl, rfl⟩

set_option maxHeartbeats 4000000 in
theorem q1_g_X7_pass (N : Nat) (h : 20 ≤ N) : ∃ z, f_X7_pass N 0 0 0 q1_O q1_O = some z ∧ z.1 = 0 := by
  obtain ⟨M, rfl⟩ := Nat.exists_eq_add_of_le' h
  exact ⟨_, rfl, rfl⟩

set_option maxHeartbeats 4000000 in
theorem q1_g_X7_write (N : Nat) (h : 20 ≤ N) : ∃ z, f_X7_write N 0 0 q1_K2 q1_O q1_O q1_O q1_O q1_O = some z ∧ z.1 = 1 := by
  obtain ⟨M, rfl⟩ := Nat.exists_eq_add_of_le' h
  exact ⟨_, rfl, rfl⟩

set_option maxHeartbeats 4000000 in
theorem q1_g_X7_holds (N : Nat) (h : 20 ≤ N) : ∃ z, f_X7_holds N 0 q1_K2 q1_O q1_O q1_O q1_O q1_O q1_B8 = some z ∧ z.1 = 1 := by
  obtain ⟨M, rfl⟩ := Nat.exists_eq_add_of_le' h
  exact ⟨_, rfl, rfl⟩

set_option maxHeartbeats 4000000 in
theorem q1_g_X7_read (N : Nat) (h : 70000 ≤ N) : ∃ z, f_X7_read N 0 2 1 0 0 0 0 0 0 q1_K2 q1_O q1_O q1_M2 q1_O q1_O q1_T2 q1_O q1_O q1_O q1_OL q1_OL = some z ∧ z.1 = 0 := by
  rw [f_X7_read, q1_sw N h]
  obtain ⟨M, rfl⟩ := Nat.exists_eq_add_of_le' (Nat.le_trans (by decide : 20 ≤ 70000) h)
  exact ⟨_, rfl, rfl⟩

set_option maxHeartbeats 4000000 in
theorem q1_g_X7_frees (N : Nat) (h : 70000 ≤ N) : ∃ z, f_X7_frees N 0 2 1 0 0 0 0 0 0 0 q1_K2 q1_O q1_O q1_M2 q1_O q1_O q1_T2 q1_O q1_O q1_OL q1_OL q1_O q1_O = some z ∧ z.1 = 1 := by
  rw [f_X7_frees, q1_sw N h]
  obtain ⟨M, rfl⟩ := Nat.exists_eq_add_of_le' (Nat.le_trans (by decide : 20 ≤ 70000) h)
  exact ⟨_, rfl, rfl⟩

set_option maxHeartbeats 4000000 in
theorem q1_g_X7_not (N : Nat) (h : 70000 ≤ N) : ∃ z, f_X7_not N 0 2 1 q1_K2 q1_O q1_O q1_M2 q1_O q1_O q1_T2 q1_O q1_O q1_OL = some z ∧ z.1 = 1 := by
  rw [f_X7_not, q1_sw N h]
  obtain ⟨M, rfl⟩ := Nat.exists_eq_add_of_le' (Nat.le_trans (by decide : 20 ≤ 70000) h)
  exact ⟨_, rfl, rfl⟩

set_option maxHeartbeats 4000000 in
theorem q1_d26_0 (N n : Nat) (th ro po ta so va pc : Int32) (by_ : Int64) (mv ab be pr ps : Nat → Int32) (row pt : Nat → Int64) : f_X7_decide_26 N (n + 1) th 2 ro po ta 0 by_ so va pc q1_K2 q1_O q1_O q1_M2 q1_O q1_O q1_T3 q1_O mv ab be row pt pr ps 1 0 = f_X7_decide_26 N n th 2 ro po ta 0 by_ so 0 pc q1_K2 q1_O q1_O q1_M2 q1_O q1_O q1_T3 q1_O mv ab be row pt pr ps 1 1 := by
  have v4 : upd q1_O 1 0 = q1_O := q1_upd_same _ _ _ rfl
  have e : f_X7_decide_26 N (n + 1) th 2 ro po ta 0 by_ so va pc q1_K2 q1_O q1_O q1_M2 q1_O q1_O q1_T3 q1_O mv ab be row pt pr ps 1 0 = f_X7_decide_26 N n th 2 ro po ta 0 by_ so 0 pc q1_K2 q1_O q1_O q1_M2 q1_O q1_O q1_T3 (upd q1_O 1 0) mv ab be row pt pr ps 1 1 := rfl
  rw [e, v4]

set_option maxHeartbeats 4000000 in
theorem q1_d26_1 (N n : Nat) (th ro po ta so va pc : Int32) (by_ : Int64) (mv ab be pr ps : Nat → Int32) (row pt : Nat → Int64) : f_X7_decide_26 N (n + 1) th 2 ro po ta 0 by_ so va pc q1_K2 q1_O q1_O q1_M2 q1_O q1_O q1_T3 q1_O mv ab be row pt pr ps 1 1 = f_X7_decide_26 N n th 2 ro po ta 0 by_ so 1 pc q1_K2 q1_O q1_O q1_M2 q1_O q1_O q1_T3 q1_O mv ab be row pt pr ps 1 2 := by
  have v4 : upd q1_O 1 0 = q1_O := q1_upd_same _ _ _ rfl
  have e : f_X7_decide_26 N (n + 1) th 2 ro po ta 0 by_ so va pc q1_K2 q1_O q1_O q1_M2 q1_O q1_O q1_T3 q1_O mv ab be row pt pr ps 1 1 = f_X7_decide_26 N n th 2 ro po ta 0 by_ so 1 pc q1_K2 q1_O q1_O q1_M2 q1_O q1_O q1_T3 (upd q1_O 1 0) mv ab be row pt pr ps 1 2 := rfl
  rw [e, v4]

set_option maxHeartbeats 4000000 in
theorem q1_d26_2 (N n : Nat) (th ro po ta so va pc : Int32) (by_ : Int64) (mv ab be pr ps : Nat → Int32) (row pt : Nat → Int64) : f_X7_decide_26 N (n + 1) th 2 ro po ta 0 by_ so va pc q1_K2 q1_O q1_O q1_M2 q1_O q1_O q1_T3 q1_O mv ab be row pt pr ps 1 2 = f_X7_decide_26 N n th 2 ro po ta 0 by_ so 2 pc q1_K2 q1_O q1_O q1_M2 q1_O q1_O q1_T3 q1_O mv ab be row pt pr ps 1 3 := by
  have v4 : upd q1_O 1 0 = q1_O := q1_upd_same _ _ _ rfl
  have e : f_X7_decide_26 N (n + 1) th 2 ro po ta 0 by_ so va pc q1_K2 q1_O q1_O q1_M2 q1_O q1_O q1_T3 q1_O mv ab be row pt pr ps 1 2 = f_X7_decide_26 N n th 2 ro po ta 0 by_ so 2 pc q1_K2 q1_O q1_O q1_M2 q1_O q1_O q1_T3 (upd q1_O 1 0) mv ab be row pt pr ps 1 3 := rfl
  rw [e, v4]

set_option maxHeartbeats 4000000 in
theorem q1_d26_3 (N n : Nat) (th ro po ta so va pc : Int32) (by_ : Int64) (mv ab be pr ps : Nat → Int32) (row pt : Nat → Int64) : f_X7_decide_26 N (n + 1) th 2 ro po ta 0 by_ so va pc q1_K2 q1_O q1_O q1_M2 q1_O q1_O q1_T3 q1_O mv ab be row pt pr ps 1 3 = f_X7_decide_26 N n th 2 ro po ta 0 by_ so 3 pc q1_K2 q1_O q1_O q1_M2 q1_O q1_O q1_T3 q1_O mv ab be row pt pr ps 1 4 := by
  have v4 : upd q1_O 1 0 = q1_O := q1_upd_same _ _ _ rfl
  have e : f_X7_decide_26 N (n + 1) th 2 ro po ta 0 by_ so va pc q1_K2 q1_O q1_O q1_M2 q1_O q1_O q1_T3 q1_O mv ab be row pt pr ps 1 3 = f_X7_decide_26 N n th 2 ro po ta 0 by_ so 3 pc q1_K2 q1_O q1_O q1_M2 q1_O q1_O q1_T3 (upd q1_O 1 0) mv ab be row pt pr ps 1 4 := rfl
  rw [e, v4]

set_option maxHeartbeats 4000000 in
theorem q1_d26_4 (N n : Nat) (th ro po ta so va pc : Int32) (by_ : Int64) (mv ab be pr ps : Nat → Int32) (row pt : Nat → Int64) : f_X7_decide_26 N (n + 1) th 2 ro po ta 0 by_ so va pc q1_K2 q1_O q1_O q1_M2 q1_O q1_O q1_T3 q1_O mv ab be row pt pr ps 1 4 = f_X7_decide_26 N n th 2 ro po ta 0 by_ so 4 pc q1_K2 q1_O q1_O q1_M2 q1_O q1_O q1_T3 q1_O mv ab be row pt pr ps 1 5 := by
  have v4 : upd q1_O 1 0 = q1_O := q1_upd_same _ _ _ rfl
  have e : f_X7_decide_26 N (n + 1) th 2 ro po ta 0 by_ so va pc q1_K2 q1_O q1_O q1_M2 q1_O q1_O q1_T3 q1_O mv ab be row pt pr ps 1 4 = f_X7_decide_26 N n th 2 ro po ta 0 by_ so 4 pc q1_K2 q1_O q1_O q1_M2 q1_O q1_O q1_T3 (upd q1_O 1 0) mv ab be row pt pr ps 1 5 := rfl
  rw [e, v4]

set_option maxHeartbeats 4000000 in
theorem q1_d26_5 (N n : Nat) (th ro po ta so va pc : Int32) (by_ : Int64) (mv ab be pr ps : Nat → Int32) (row pt : Nat → Int64) : f_X7_decide_26 N (n + 1) th 2 ro po ta 0 by_ so va pc q1_K2 q1_O q1_O q1_M2 q1_O q1_O q1_T3 q1_O mv ab be row pt pr ps 1 5 = f_X7_decide_26 N n th 2 ro po ta 0 by_ so 5 pc q1_K2 q1_O q1_O q1_M2 q1_O q1_O q1_T3 q1_O mv ab be row pt pr ps 1 6 := by
  have v4 : upd q1_O 1 0 = q1_O := q1_upd_same _ _ _ rfl
  have e : f_X7_decide_26 N (n + 1) th 2 ro po ta 0 by_ so va pc q1_K2 q1_O q1_O q1_M2 q1_O q1_O q1_T3 q1_O mv ab be row pt pr ps 1 5 = f_X7_decide_26 N n th 2 ro po ta 0 by_ so 5 pc q1_K2 q1_O q1_O q1_M2 q1_O q1_O q1_T3 (upd q1_O 1 0) mv ab be row pt pr ps 1 6 := rfl
  rw [e, v4]

set_option maxHeartbeats 4000000 in
theorem q1_d26_6 (N n : Nat) (th ro po ta so va pc : Int32) (by_ : Int64) (mv ab be pr ps : Nat → Int32) (row pt : Nat → Int64) : f_X7_decide_26 N (n + 1) th 2 ro po ta 0 by_ so va pc q1_K2 q1_O q1_O q1_M2 q1_O q1_O q1_T3 q1_O mv ab be row pt pr ps 1 6 = f_X7_decide_26 N n th 2 ro po ta 0 by_ so 6 pc q1_K2 q1_O q1_O q1_M2 q1_O q1_O q1_T3 q1_O mv ab be row pt pr ps 1 7 := by
  have v4 : upd q1_O 1 0 = q1_O := q1_upd_same _ _ _ rfl
  have e : f_X7_decide_26 N (n + 1) th 2 ro po ta 0 by_ so va pc q1_K2 q1_O q1_O q1_M2 q1_O q1_O q1_T3 q1_O mv ab be row pt pr ps 1 6 = f_X7_decide_26 N n th 2 ro po ta 0 by_ so 6 pc q1_K2 q1_O q1_O q1_M2 q1_O q1_O q1_T3 (upd q1_O 1 0) mv ab be row pt pr ps 1 7 := rfl
  rw [e, v4]

set_option maxHeartbeats 4000000 in
theorem q1_d26_7 (N n : Nat) (th ro po ta so va pc : Int32) (by_ : Int64) (mv ab be pr ps : Nat → Int32) (row pt : Nat → Int64) : f_X7_decide_26 N (n + 1) th 2 ro po ta 0 by_ so va pc q1_K2 q1_O q1_O q1_M2 q1_O q1_O q1_T3 q1_O mv ab be row pt pr ps 1 7 = f_X7_decide_26 N n th 2 ro po ta 0 by_ so 7 pc q1_K2 q1_O q1_O q1_M2 q1_O q1_O q1_T3 q1_O mv ab be row pt pr ps 1 8 := by
  have v4 : upd q1_O 1 0 = q1_O := q1_upd_same _ _ _ rfl
  have e : f_X7_decide_26 N (n + 1) th 2 ro po ta 0 by_ so va pc q1_K2 q1_O q1_O q1_M2 q1_O q1_O q1_T3 q1_O mv ab be row pt pr ps 1 7 = f_X7_decide_26 N n th 2 ro po ta 0 by_ so 7 pc q1_K2 q1_O q1_O q1_M2 q1_O q1_O q1_T3 (upd q1_O 1 0) mv ab be row pt pr ps 1 8 := rfl
  rw [e, v4]

set_option maxHeartbeats 4000000 in
theorem q1_d66 (N : Nat) (th ro po ta so va pc : Int32) (by_ : Int64) (mv ab be pr ps : Nat → Int32) (row pt : Nat → Int64) : ∃ z, f_X7_decide_66 (N + 20) th 2 2 po ta 0 by_ so va pc q1_K2 q1_O q1_O q1_M2 q1_O q1_O q1_T3 q1_O mv ab be row pt pr ps 1 = some z ∧ z.1 = 1 := ⟨_, rfl, rfl⟩

set_option maxHeartbeats 4000000 in
theorem q1_d26_8 (N n : Nat) (th ro po ta so va pc : Int32) (by_ : Int64) (mv ab be pr ps : Nat → Int32) (row pt : Nat → Int64) : f_X7_decide_26 N (n + 1) th 2 ro po ta 0 by_ so va pc q1_K2 q1_O q1_O q1_M2 q1_O q1_O q1_T3 q1_O mv ab be row pt pr ps 1 8 = f_X7_decide_66 N th 2 ro po ta 0 by_ so va pc q1_K2 q1_O q1_O q1_M2 q1_O q1_O q1_T3 q1_O mv ab be row pt pr ps 1 := rfl

theorem q1_x_root (N : Nat) : f_X7_root N 1 q1_O 0 = some (1, 2, upd q1_O 1 0) := rfl
theorem q1_x_dec (N : Nat) (h : 70000 ≤ N) : f_X7_decide N 0 2 1 0 0 0 0 0 0 0 q1_K2 q1_O q1_O q1_M2 q1_O q1_O q1_T2 q1_O q1_O q1_O q1_B8 q1_OL q1_OL q1_O q1_O = f_X7_decide_26 N N 0 2 2 0 0 0 0 0 0 0 q1_K2 q1_O q1_O q1_M2 q1_O q1_O q1_T3 q1_O q1_V2 q1_O q1_B8 q1_OL q1_OL q1_O q1_O 1 0 := by
  have v4 : upd q1_O 1 0 = q1_O := q1_upd_same _ _ _ rfl
  have e0 : ∀ {α : Type} (k : Option α), ix 0 2000 k = k := fun k => rfl
  rw [f_X7_decide, q1_sw N h, Option.bind_some, f_X7_beginFreed, Option.bind_some, e0]
  dsimp only
  rw [q1_x_root, Option.bind_some, v4]

set_option maxHeartbeats 4000000 in
theorem q1_g_X7_decide (N : Nat) (h : 70000 ≤ N) : ∃ z, f_X7_decide N 0 2 1 0 0 0 0 0 0 0 q1_K2 q1_O q1_O q1_M2 q1_O q1_O q1_T2 q1_O q1_O q1_O q1_B8 q1_OL q1_OL q1_O q1_O = some z ∧ z.1 = 1 := by
  rw [q1_x_dec N h]
  obtain ⟨M, rfl⟩ := Nat.exists_eq_add_of_le' (Nat.le_trans (by decide : 20 ≤ 70000) h)
  obtain ⟨z, hz, h1⟩ := q1_d66 M 0 2 0 0 0 7 0 0 q1_V2 q1_O q1_B8 q1_O q1_O q1_OL q1_OL
  refine ⟨z, ?_, h1⟩
  refine (q1_d26_0 _ (M + 19) _ _ _ _ _ _ _ _ _ _ _ _ _ _ _).trans ?_
  refine (q1_d26_1 _ (M + 18) _ _ _ _ _ _ _ _ _ _ _ _ _ _ _).trans ?_
  refine (q1_d26_2 _ (M + 17) _ _ _ _ _ _ _ _ _ _ _ _ _ _ _).trans ?_
  refine (q1_d26_3 _ (M + 16) _ _ _ _ _ _ _ _ _ _ _ _ _ _ _).trans ?_
  refine (q1_d26_4 _ (M + 15) _ _ _ _ _ _ _ _ _ _ _ _ _ _ _).trans ?_
  refine (q1_d26_5 _ (M + 14) _ _ _ _ _ _ _ _ _ _ _ _ _ _ _).trans ?_
  refine (q1_d26_6 _ (M + 13) _ _ _ _ _ _ _ _ _ _ _ _ _ _ _).trans ?_
  refine (q1_d26_7 _ (M + 12) _ _ _ _ _ _ _ _ _ _ _ _ _ _ _).trans ?_
  refine (q1_d26_8 _ (M + 11) _ _ _ _ _ _ _ _ _ _ _ _ _ _ _).trans ?_
  exact hz

theorem q1_i_in (x : Int32) (n : Nat) (h0 : 0 ≤ x.toInt) (hn : x.toInt < n) : ∃ k : Nat, k < n ∧ x = Int32.ofNat k := by
  refine ⟨x.toInt.toNat, by omega, ?_⟩
  apply Int32.toInt_inj.mp
  have hx := Int32.toInt_lt x
  rw [Int32.toInt_ofNat_of_lt (by omega)]; omega
set_option maxRecDepth 20000 in
set_option maxHeartbeats 4000000 in
theorem q1_hx_type (N : Nat) (h : 20 ≤ N) (p4 : Nat → Int64) (b : Int64) (n : Int32) : ∃ z1 z2, hh_L_type N 0 q1_O p4 b n = some z1 ∧ f_X7_type N 0 0 q1_O b n = some z2 ∧ z2.2.1 = z1.1 ∧ (z1.1 = 0 → lg_cmp (z1.2.2.2 0) z2.1.toInt64 = 0) := by
  obtain ⟨M, rfl⟩ := Nat.exists_eq_add_of_le' h
  by_cases h1 : n < 0
  · refine ⟨(1, 0, q1_O, p4), (0, 1, 0, q1_O), ?_, ?_, rfl, fun h => by cases h⟩
    · simp only [hh_L_type, f_X6_type_I, ifb, if_pos h1, f_X6_type_I_10]
    · simp only [f_X7_type, ifb, if_pos h1]; rfl
  by_cases h2 : n ≤ 8
  · rw [Int32.lt_iff_toInt_lt] at h1; rw [Int32.le_iff_toInt_le] at h2
    have e1 : (0 : Int32).toInt = 0 := rfl
    have e2 : (8 : Int32).toInt = 8 := rfl
    obtain ⟨k, hk, rfl⟩ := q1_i_in n 9 (by omega) (by omega)
    have hk' : k = 0 ∨ k = 1 ∨ k = 2 ∨ k = 3 ∨ k = 4 ∨ k = 5 ∨ k = 6 ∨ k = 7 ∨ k = 8 := by omega
    rcases hk' with rfl | rfl | rfl | rfl | rfl | rfl | rfl | rfl | rfl <;> exact ⟨_, _, rfl, rfl, rfl, fun _ => rfl⟩
  · refine ⟨(1, 0, q1_O, p4), (0, 1, 0, q1_O), ?_, ?_, rfl, fun h => by cases h⟩
    · simp only [hh_L_type, f_X6_type_I, ifb, if_neg h1, if_neg h2, f_X6_type_I_10]
    · simp only [f_X7_type, ifb, if_neg h1, if_neg h2]; rfl
theorem q1_hx_told (N : Nat) (h : 20 ≤ N) (p4 : Nat → Int64) (x : Int32) : ∃ z1 z2, hh_L_told N 0 0 1 q1_O 4000 q1_O q1_O p4 x = some z1 ∧ f_X7_told N 0 0 0 q1_K2 q1_O q1_O q1_M2 q1_O x = some z2 ∧ z2.2 = z1.1 ∧ (z1.1 = 0 → lg_cmp (z1.2.2.2 0) z2.1.toInt64 = 0) := by
  obtain ⟨M, rfl⟩ := Nat.exists_eq_add_of_le' h
  have e1 : (0 : Int32).toInt = 0 := rfl
  have e2 : (5 : Int32).toInt = 5 := rfl
  by_cases h1 : x.toInt < 0 ∨ 5 < x.toInt
  · refine ⟨(1, q1_O, q1_O, p4), (0, 1), ?_, ?_, rfl, fun h => by cases h⟩
    · simp only [hh_L_told, f_X6_told_I, ifb, if_pos h1]
    · by_cases h2 : x < 0
      · simp only [f_X7_told, ifb, if_pos h2]; rfl
      · have h3 : ¬ x ≤ 5 := by
          rw [Int32.lt_iff_toInt_lt] at h2; rw [Int32.le_iff_toInt_le]; omega
        simp only [f_X7_told, ifb, if_neg h2, if_neg h3]; rfl
  · obtain ⟨k, hk, rfl⟩ := q1_i_in x 6 (by omega) (by omega)
    have hk' : k = 0 ∨ k = 1 ∨ k = 2 ∨ k = 3 ∨ k = 4 ∨ k = 5 := by omega
    rcases hk' with rfl | rfl | rfl | rfl | rfl | rfl <;> exact ⟨_, _, rfl, rfl, rfl, fun _ => rfl⟩
theorem q1_hx_value (N : Nat) (x1 x2 x3 : Int32) : ∃ z1 z2, hh_L_value N q1_O q1_B8 x1 x2 x3 = some z1 ∧ f_X7_value N 0 q1_O q1_B8 x1 x2 x3 = some z2 ∧ z2.1 = z1.1 := by
  have e7 : (7 < x1) ↔ ¬ (x1 < 8) := by
    rw [Int32.lt_iff_toInt_lt, Int32.lt_iff_toInt_lt, show (7 : Int32).toInt = 7 from rfl, show (8 : Int32).toInt = 8 from rfl]; omega
  have e9 : (99 < x2) ↔ ¬ (x2 ≤ 99) := by
    rw [Int32.lt_iff_toInt_lt, Int32.le_iff_toInt_le, show (99 : Int32).toInt = 99 from rfl]; omega
  by_cases h1 : x1 < 0
  · exact ⟨(1, q1_O, q1_B8), (1, q1_O, q1_B8), by simp only [hh_L_value, f_X6_value_I, ifb, if_pos h1, f_X6_value_I_10], by simp only [f_X7_value, ifb, if_pos h1]; rfl, rfl⟩
  by_cases h2 : x1 < 8
  · have h2' : ¬ (7 < x1) := fun h => (e7.mp h) h2
    by_cases h3 : x2 < -99
    · exact ⟨(1, q1_O, q1_B8), (1, q1_O, q1_B8), by simp only [hh_L_value, f_X6_value_I, ifb, if_neg h1, if_pos h2, if_pos h3, f_X6_value_I_32], by simp only [f_X7_value, ifb, if_neg h1, if_neg h2', if_pos h3]; rfl, rfl⟩
    by_cases h4 : x2 ≤ 99
    · have h4' : ¬ (99 < x2) := fun h => (e9.mp h) h4
      by_cases h5 : x3 < 1
      · exact ⟨(1, q1_O, q1_B8), (1, q1_O, q1_B8), by simp only [hh_L_value, f_X6_value_I, ifb, if_neg h1, if_pos h2, if_neg h3, if_pos h4, if_pos h5, f_X6_value_I_53], by simp only [f_X7_value, ifb, if_neg h1, if_neg h2', if_neg h3, if_neg h4', if_pos h5]; rfl, rfl⟩
      by_cases h6 : x3 ≤ 9
      · have hi : (decide (0 ≤ x1.toInt) && decide (x1.toInt < (8 : Nat))) = true := by
          rw [Int32.lt_iff_toInt_lt, show (0 : Int32).toInt = 0 from rfl] at h1
          rw [Int32.lt_iff_toInt_lt, show (8 : Int32).toInt = 8 from rfl] at h2
          simp only [Bool.and_eq_true, decide_eq_true_eq]; omega
        refine ⟨(0, upd q1_O x1.toNatClampNeg x2, upd q1_B8 x1.toNatClampNeg x3), (0, upd q1_O x1.toNatClampNeg x2, upd q1_B8 x1.toNatClampNeg x3), ?_, ?_, rfl⟩
        · simp only [hh_L_value, f_X6_value_I, ifb, if_neg h1, if_pos h2, if_neg h3, if_pos h4, if_neg h5, if_pos h6, f_L_value, f_X6_value, ix, if_pos hi, Option.bind_some]
        · simp only [f_X7_value, f_X7_value_39, f_X7_value_63, ifb, if_neg h1, if_neg h2', if_neg h3, if_neg h4', if_neg h5, if_pos h6, ix, if_pos hi, if_true]
      · exact ⟨(1, q1_O, q1_B8), (1, q1_O, q1_B8), by simp only [hh_L_value, f_X6_value_I, ifb, if_neg h1, if_pos h2, if_neg h3, if_pos h4, if_neg h5, if_neg h6, f_X6_value_I_53], by simp only [f_X7_value, ifb, if_neg h1, if_neg h2', if_neg h3, if_neg h4', if_neg h5, if_neg h6]; rfl, rfl⟩
    · exact ⟨(1, q1_O, q1_B8), (1, q1_O, q1_B8), by simp only [hh_L_value, f_X6_value_I, ifb, if_neg h1, if_pos h2, if_neg h3, if_neg h4, f_X6_value_I_32], by simp only [f_X7_value, ifb, if_neg h1, if_neg h2', if_neg h3, if_pos (e9.mpr h4)]; rfl, rfl⟩
  · exact ⟨(1, q1_O, q1_B8), (1, q1_O, q1_B8), by simp only [hh_L_value, f_X6_value_I, ifb, if_neg h1, if_neg h2, f_X6_value_I_10], by simp only [f_X7_value, ifb, if_neg h1, if_pos (e7.mpr h2)]; rfl, rfl⟩
theorem q1_hx_holds (N : Nat) (h : 20 ≤ N) (p4 : Nat → Int64) : ∃ z1 z2, hh_L_holds N 1 q1_O 4000 q1_O q1_B8 q1_O q1_O p4 = some z1 ∧ f_X7_holds N 0 q1_K2 q1_O q1_O q1_O q1_O q1_O q1_B8 = some z2 ∧ z2.2 = z1.1 ∧ (z1.1 = 0 → lg_cmp (z1.2.2.2 0) z2.1.toInt64 = 0) := by
  obtain ⟨M, rfl⟩ := Nat.exists_eq_add_of_le' h
  exact ⟨_, _, rfl, rfl, rfl, fun _ => rfl⟩

theorem q1_lg_not (p : Int64) (h : ¬ (lg_cmp p 0 < 0)) : 0 ≤ lg_cmp p (0 : Int32).toInt64 := by
  show 0 ≤ lg_cmp p 0
  unfold lg_cmp at h ⊢
  split
  · decide
  · split
    · decide
    · rename_i h1 h2; rw [if_neg h1, if_neg h2] at h; exact absurd (by decide) h
theorem q1_x_let (N : Nat) (p : Int64) : f_X3_letterAt N 0 q1_O p = some 0 := by
  unfold f_X3_letterAt
  by_cases h : lg_cmp p 0 < 0
  · simp only [ifb, if_pos h]; rfl
  · simp only [ifb, if_neg h, if_pos (q1_lg_not p h)]; rfl
theorem q1_x6_out5 (N n : Nat) (x k : Int32) (hk : ¬ (8 ≤ k)) (hs : (0 : Int64) ||| ((0 : Int32).toInt64 <<< ((8 * k).toInt64 &&& 63)) = 0) : f_X6_out_5 N (n + 1) 0 q1_O x 0 k = f_X6_out_5 N n 0 q1_O x 0 (k + 1) := by
  rw [f_X6_out_5]; dsimp only
  rw [ifb, if_neg hk, q1_x_let, Option.bind_some, hs]
theorem q1_x6_out (N : Nat) (h : 20 ≤ N) (x : Int32) : f_X6_out N 0 q1_O x = some 0 := by
  obtain ⟨M, rfl⟩ := Nat.exists_eq_add_of_le' h
  rw [f_X6_out]
  refine (q1_x6_out5 _ (M + 19) x 0 (by decide) (by decide +kernel)).trans ?_
  refine (q1_x6_out5 _ (M + 18) x 1 (by decide) (by decide +kernel)).trans ?_
  refine (q1_x6_out5 _ (M + 17) x 2 (by decide) (by decide +kernel)).trans ?_
  refine (q1_x6_out5 _ (M + 16) x 3 (by decide) (by decide +kernel)).trans ?_
  refine (q1_x6_out5 _ (M + 15) x 4 (by decide) (by decide +kernel)).trans ?_
  refine (q1_x6_out5 _ (M + 14) x 5 (by decide) (by decide +kernel)).trans ?_
  refine (q1_x6_out5 _ (M + 13) x 6 (by decide) (by decide +kernel)).trans ?_
  refine (q1_x6_out5 _ (M + 12) x 7 (by decide) (by decide +kernel)).trans ?_
  rfl
theorem q1_x7_out5 (N n : Nat) (x k : Int32) (hk : ¬ (8 ≤ k)) : f_X7_out_10 N (n + 1) 0 0 q1_O x 0 k = f_X7_out_10 N n 0 0 q1_O x 0 (k + 1) := by
  rw [f_X7_out_10]; dsimp only
  rw [ifb, if_neg hk]
  by_cases h : lg_cmp (x.toInt64 + k.toInt64) 0 < 0
  · rw [ifb, if_pos h]; rfl
  · rw [ifb, if_neg h, ifb, if_pos (q1_lg_not _ h)]; rfl
theorem q1_x7_out (N : Nat) (h : 20 ≤ N) (x : Int32) : f_X7_out N 0 0 q1_O x = some (0, 0) := by
  obtain ⟨M, rfl⟩ := Nat.exists_eq_add_of_le' h
  rw [f_X7_out]
  refine (q1_x7_out5 _ (M + 19) x 0 (by decide)).trans ?_
  refine (q1_x7_out5 _ (M + 18) x 1 (by decide)).trans ?_
  refine (q1_x7_out5 _ (M + 17) x 2 (by decide)).trans ?_
  refine (q1_x7_out5 _ (M + 16) x 3 (by decide)).trans ?_
  refine (q1_x7_out5 _ (M + 15) x 4 (by decide)).trans ?_
  refine (q1_x7_out5 _ (M + 14) x 5 (by decide)).trans ?_
  refine (q1_x7_out5 _ (M + 13) x 6 (by decide)).trans ?_
  refine (q1_x7_out5 _ (M + 12) x 7 (by decide)).trans ?_
  rfl

theorem q1_ifb_t {c : Prop} [Decidable c] {α : Type} {a b : Option α} (h : c) : ifb c a b = a := if_pos h
theorem q1_ifb_f {c : Prop} [Decidable c] {α : Type} {a b : Option α} (h : ¬ c) : ifb c a b = b := if_neg h
theorem q1_ix_t {i : Int32} {n : Nat} {α : Type} {k : Option α} (h : (decide (0 ≤ i.toInt) && decide (i.toInt < n)) = true) : ix i n k = k := if_pos h
theorem q1_bd {α β : Type} {o : Option α} {z : α} {k : α → Option β} (h : o = some z) : o.bind k = k z := by rw [h]; rfl
theorem q1_op_in (x : Int32) : ∃ k : Nat, k < 16 ∧ x &&& 15 = Int32.ofNat k := by
  have h : (x &&& 15).toBitVec.toNat ≤ 15 := by
    rw [Int32.toBitVec_and, BitVec.toNat_and]
    exact Nat.and_le_right
  refine ⟨(x &&& 15).toBitVec.toNat, by omega, ?_⟩
  apply Int32.toBitVec_inj.mp
  apply BitVec.eq_of_toNat_eq
  show _ = (BitVec.ofNat 32 _).toNat
  rw [BitVec.toNat_ofNat, Nat.mod_eq_of_lt (by omega)]

theorem q1_lp_0 (xs : Nat → Int32) (N : Nat) (h : 70000 ≤ N) (hop : xs 0 &&& 15 = 0) : f_L_law_23 4 xs N 2 0 0 0 0 0 0 0 q1_O 0 0 q1_O 2400 q1_O q1_O q1_OL q1_O 0 0 0 0 0 q1_O 12000 q1_O q1_O 0 q1_O 4000 q1_OL q1_O q1_O q1_O 0 0 q1_O q1_O q1_O 1 q1_O 4000 0 q1_O 4000 q1_O q1_B8 q1_O q1_O 0 2 1 0 0 0 0 0 0 0 0 0 0 0 0 0 q1_K2 q1_O q1_O q1_M2 q1_O q1_O q1_T2 q1_O q1_O q1_O q1_O q1_O q1_B8 q1_OL q1_OL q1_OL q1_O q1_O q1_OL 0 = some 1 := by
  have h20 : 20 ≤ N := Nat.le_trans (by decide) h
  have hop : xs (0 : Int32).toNatClampNeg &&& 15 = 0 := hop
  rw [f_L_law_23]
  dsimp only
  refine (q1_ifb_f (by decide)).trans ?_
  refine (q1_ix_t (by decide)).trans ?_
  rw [hop]
  refine (q1_ifb_f (by decide)).trans ?_
  refine (q1_ifb_t rfl).trans ?_
  refine (q1_ix_t (by decide)).trans ?_
  refine (q1_ix_t (by decide)).trans ?_
  refine (q1_ix_t (by decide)).trans ?_
  obtain ⟨z1, z2, e1, e2, e3, e4⟩ := q1_hx_type N h20 q1_OL ((((xs (0 + 1 : Int32).toNatClampNeg).toInt64) <<< ((32 : Int32).toInt64 &&& 63)) ||| (((xs (0 + 2 : Int32).toNatClampNeg).toInt64) &&& 4294967295)) (xs (0 + 3 : Int32).toNatClampNeg)
  refine (q1_bd e1).trans ?_
  refine (q1_ix_t (by decide)).trans ?_
  refine (q1_ix_t (by decide)).trans ?_
  refine (q1_ix_t (by decide)).trans ?_
  refine (q1_bd e2).trans ?_
  refine (q1_bd (z := _) rfl).trans ?_
  refine (q1_ifb_t e3).trans ?_
  by_cases hz : z1.1 = 0
  · refine (q1_ifb_t hz).trans ?_
    refine (q1_ix_t (by decide)).trans ?_
    refine (q1_ifb_t (e4 hz)).trans ?_
    rfl
  · refine (q1_ifb_f hz).trans ?_
    rfl

theorem q1_lp_1 (xs : Nat → Int32) (N : Nat) (h : 70000 ≤ N) (hop : xs 0 &&& 15 = 1) : f_L_law_23 4 xs N 2 0 0 0 0 0 0 0 q1_O 0 0 q1_O 2400 q1_O q1_O q1_OL q1_O 0 0 0 0 0 q1_O 12000 q1_O q1_O 0 q1_O 4000 q1_OL q1_O q1_O q1_O 0 0 q1_O q1_O q1_O 1 q1_O 4000 0 q1_O 4000 q1_O q1_B8 q1_O q1_O 0 2 1 0 0 0 0 0 0 0 0 0 0 0 0 0 q1_K2 q1_O q1_O q1_M2 q1_O q1_O q1_T2 q1_O q1_O q1_O q1_O q1_O q1_B8 q1_OL q1_OL q1_OL q1_O q1_O q1_OL 0 = some 1 := by
  have h20 : 20 ≤ N := Nat.le_trans (by decide) h
  have hop : xs (0 : Int32).toNatClampNeg &&& 15 = 1 := hop
  rw [f_L_law_23]
  dsimp only
  refine (q1_ifb_f (by decide)).trans ?_
  refine (q1_ix_t (by decide)).trans ?_
  rw [hop]
  refine (q1_ifb_f (by decide)).trans ?_
  refine (q1_ifb_f (by decide)).trans ?_
  refine (q1_ifb_t rfl).trans ?_
  obtain ⟨z1, e1, v1⟩ := q1_g_X6_clear N h20
  obtain ⟨z2, e2, v2⟩ := q1_g_X7_clear N h20
  refine (q1_bd e1).trans ?_
  refine (q1_bd e2).trans ?_
  refine (q1_ifb_t (v1.trans v2.symm)).trans ?_
  rfl

theorem q1_lp_2 (xs : Nat → Int32) (N : Nat) (h : 70000 ≤ N) (hop : xs 0 &&& 15 = 2) : f_L_law_23 4 xs N 2 0 0 0 0 0 0 0 q1_O 0 0 q1_O 2400 q1_O q1_O q1_OL q1_O 0 0 0 0 0 q1_O 12000 q1_O q1_O 0 q1_O 4000 q1_OL q1_O q1_O q1_O 0 0 q1_O q1_O q1_O 1 q1_O 4000 0 q1_O 4000 q1_O q1_B8 q1_O q1_O 0 2 1 0 0 0 0 0 0 0 0 0 0 0 0 0 q1_K2 q1_O q1_O q1_M2 q1_O q1_O q1_T2 q1_O q1_O q1_O q1_O q1_O q1_B8 q1_OL q1_OL q1_OL q1_O q1_O q1_OL 0 = some 1 := by
  have h20 : 20 ≤ N := Nat.le_trans (by decide) h
  have hop : xs (0 : Int32).toNatClampNeg &&& 15 = 2 := hop
  rw [f_L_law_23]
  dsimp only
  refine (q1_ifb_f (by decide)).trans ?_
  refine (q1_ix_t (by decide)).trans ?_
  rw [hop]
  refine (q1_ifb_f (by decide)).trans ?_
  refine (q1_ifb_f (by decide)).trans ?_
  refine (q1_ifb_f (by decide)).trans ?_
  refine (q1_ifb_t rfl).trans ?_
  obtain ⟨z1, e1, v1⟩ := q1_g_X6_read N h20
  obtain ⟨z2, e2, v2⟩ := q1_g_X7_read N h
  refine (q1_bd e1).trans ?_
  refine (q1_bd e2).trans ?_
  refine (q1_ifb_t (v1.trans v2.symm)).trans ?_
  rfl

theorem q1_lp_3 (xs : Nat → Int32) (N : Nat) (h : 70000 ≤ N) (hop : xs 0 &&& 15 = 3) : f_L_law_23 4 xs N 2 0 0 0 0 0 0 0 q1_O 0 0 q1_O 2400 q1_O q1_O q1_OL q1_O 0 0 0 0 0 q1_O 12000 q1_O q1_O 0 q1_O 4000 q1_OL q1_O q1_O q1_O 0 0 q1_O q1_O q1_O 1 q1_O 4000 0 q1_O 4000 q1_O q1_B8 q1_O q1_O 0 2 1 0 0 0 0 0 0 0 0 0 0 0 0 0 q1_K2 q1_O q1_O q1_M2 q1_O q1_O q1_T2 q1_O q1_O q1_O q1_O q1_O q1_B8 q1_OL q1_OL q1_OL q1_O q1_O q1_OL 0 = some 1 := by
  have h20 : 20 ≤ N := Nat.le_trans (by decide) h
  have hop : xs (0 : Int32).toNatClampNeg &&& 15 = 3 := hop
  rw [f_L_law_23]
  dsimp only
  refine (q1_ifb_f (by decide)).trans ?_
  refine (q1_ix_t (by decide)).trans ?_
  rw [hop]
  refine (q1_ifb_f (by decide)).trans ?_
  refine (q1_ifb_f (by decide)).trans ?_
  refine (q1_ifb_f (by decide)).trans ?_
  refine (q1_ifb_f (by decide)).trans ?_
  refine (q1_ifb_t rfl).trans ?_
  rfl

theorem q1_lp_4 (xs : Nat → Int32) (N : Nat) (h : 70000 ≤ N) (hop : xs 0 &&& 15 = 4) : f_L_law_23 4 xs N 2 0 0 0 0 0 0 0 q1_O 0 0 q1_O 2400 q1_O q1_O q1_OL q1_O 0 0 0 0 0 q1_O 12000 q1_O q1_O 0 q1_O 4000 q1_OL q1_O q1_O q1_O 0 0 q1_O q1_O q1_O 1 q1_O 4000 0 q1_O 4000 q1_O q1_B8 q1_O q1_O 0 2 1 0 0 0 0 0 0 0 0 0 0 0 0 0 q1_K2 q1_O q1_O q1_M2 q1_O q1_O q1_T2 q1_O q1_O q1_O q1_O q1_O q1_B8 q1_OL q1_OL q1_OL q1_O q1_O q1_OL 0 = some 1 := by
  have h20 : 20 ≤ N := Nat.le_trans (by decide) h
  have hop : xs (0 : Int32).toNatClampNeg &&& 15 = 4 := hop
  rw [f_L_law_23]
  dsimp only
  refine (q1_ifb_f (by decide)).trans ?_
  refine (q1_ix_t (by decide)).trans ?_
  rw [hop]
  refine (q1_ifb_f (by decide)).trans ?_
  refine (q1_ifb_f (by decide)).trans ?_
  refine (q1_ifb_f (by decide)).trans ?_
  refine (q1_ifb_f (by decide)).trans ?_
  refine (q1_ifb_f (by decide)).trans ?_
  refine (q1_ifb_t rfl).trans ?_
  obtain ⟨z1, e1, v1⟩ := q1_g_X6_frees N h20
  obtain ⟨z2, e2, v2⟩ := q1_g_X7_frees N h
  refine (q1_bd e1).trans ?_
  refine (q1_bd e2).trans ?_
  refine (q1_ifb_t (v1.trans v2.symm)).trans ?_
  rfl

theorem q1_lp_5 (xs : Nat → Int32) (N : Nat) (h : 70000 ≤ N) (hop : xs 0 &&& 15 = 5) : f_L_law_23 4 xs N 2 0 0 0 0 0 0 0 q1_O 0 0 q1_O 2400 q1_O q1_O q1_OL q1_O 0 0 0 0 0 q1_O 12000 q1_O q1_O 0 q1_O 4000 q1_OL q1_O q1_O q1_O 0 0 q1_O q1_O q1_O 1 q1_O 4000 0 q1_O 4000 q1_O q1_B8 q1_O q1_O 0 2 1 0 0 0 0 0 0 0 0 0 0 0 0 0 q1_K2 q1_O q1_O q1_M2 q1_O q1_O q1_T2 q1_O q1_O q1_O q1_O q1_O q1_B8 q1_OL q1_OL q1_OL q1_O q1_O q1_OL 0 = some 1 := by
  have h20 : 20 ≤ N := Nat.le_trans (by decide) h
  have hop : xs (0 : Int32).toNatClampNeg &&& 15 = 5 := hop
  rw [f_L_law_23]
  dsimp only
  refine (q1_ifb_f (by decide)).trans ?_
  refine (q1_ix_t (by decide)).trans ?_
  rw [hop]
  refine (q1_ifb_f (by decide)).trans ?_
  refine (q1_ifb_f (by decide)).trans ?_
  refine (q1_ifb_f (by decide)).trans ?_
  refine (q1_ifb_f (by decide)).trans ?_
  refine (q1_ifb_f (by decide)).trans ?_
  refine (q1_ifb_f (by decide)).trans ?_
  refine (q1_ifb_t rfl).trans ?_
  refine (q1_ix_t (by decide)).trans ?_
  refine (q1_ix_t (by decide)).trans ?_
  refine (q1_ix_t (by decide)).trans ?_
  obtain ⟨z1, z2, e1, e2, e3⟩ := q1_hx_value N (xs (0 + 1 : Int32).toNatClampNeg) (xs (0 + 2 : Int32).toNatClampNeg) (xs (0 + 3 : Int32).toNatClampNeg)
  refine (q1_bd e1).trans ?_
  refine (q1_ix_t (by decide)).trans ?_
  refine (q1_ix_t (by decide)).trans ?_
  refine (q1_ix_t (by decide)).trans ?_
  refine (q1_bd e2).trans ?_
  refine (q1_bd (z := _) rfl).trans ?_
  refine (q1_ifb_t e3).trans ?_
  rfl

theorem q1_lp_6 (xs : Nat → Int32) (N : Nat) (h : 70000 ≤ N) (hop : xs 0 &&& 15 = 6) : f_L_law_23 4 xs N 2 0 0 0 0 0 0 0 q1_O 0 0 q1_O 2400 q1_O q1_O q1_OL q1_O 0 0 0 0 0 q1_O 12000 q1_O q1_O 0 q1_O 4000 q1_OL q1_O q1_O q1_O 0 0 q1_O q1_O q1_O 1 q1_O 4000 0 q1_O 4000 q1_O q1_B8 q1_O q1_O 0 2 1 0 0 0 0 0 0 0 0 0 0 0 0 0 q1_K2 q1_O q1_O q1_M2 q1_O q1_O q1_T2 q1_O q1_O q1_O q1_O q1_O q1_B8 q1_OL q1_OL q1_OL q1_O q1_O q1_OL 0 = some 1 := by
  have h20 : 20 ≤ N := Nat.le_trans (by decide) h
  have hop : xs (0 : Int32).toNatClampNeg &&& 15 = 6 := hop
  rw [f_L_law_23]
  dsimp only
  refine (q1_ifb_f (by decide)).trans ?_
  refine (q1_ix_t (by decide)).trans ?_
  rw [hop]
  refine (q1_ifb_f (by decide)).trans ?_
  refine (q1_ifb_f (by decide)).trans ?_
  refine (q1_ifb_f (by decide)).trans ?_
  refine (q1_ifb_f (by decide)).trans ?_
  refine (q1_ifb_f (by decide)).trans ?_
  refine (q1_ifb_f (by decide)).trans ?_
  refine (q1_ifb_f (by decide)).trans ?_
  refine (q1_ifb_t rfl).trans ?_
  obtain ⟨z1, z2, e1, e2, e3, e4⟩ := q1_hx_holds N h20 q1_OL
  refine (q1_bd e1).trans ?_
  refine (q1_bd e2).trans ?_
  refine (q1_bd (z := _) rfl).trans ?_
  refine (q1_ifb_t e3).trans ?_
  by_cases hz : z1.1 = 0
  · refine (q1_ifb_t hz).trans ?_
    refine (q1_ix_t (by decide)).trans ?_
    refine (q1_ifb_t (e4 hz)).trans ?_
    rfl
  · refine (q1_ifb_f hz).trans ?_
    rfl

theorem q1_lp_7 (xs : Nat → Int32) (N : Nat) (h : 70000 ≤ N) (hop : xs 0 &&& 15 = 7) : f_L_law_23 4 xs N 2 0 0 0 0 0 0 0 q1_O 0 0 q1_O 2400 q1_O q1_O q1_OL q1_O 0 0 0 0 0 q1_O 12000 q1_O q1_O 0 q1_O 4000 q1_OL q1_O q1_O q1_O 0 0 q1_O q1_O q1_O 1 q1_O 4000 0 q1_O 4000 q1_O q1_B8 q1_O q1_O 0 2 1 0 0 0 0 0 0 0 0 0 0 0 0 0 q1_K2 q1_O q1_O q1_M2 q1_O q1_O q1_T2 q1_O q1_O q1_O q1_O q1_O q1_B8 q1_OL q1_OL q1_OL q1_O q1_O q1_OL 0 = some 1 := by
  have h20 : 20 ≤ N := Nat.le_trans (by decide) h
  have hop : xs (0 : Int32).toNatClampNeg &&& 15 = 7 := hop
  rw [f_L_law_23]
  dsimp only
  refine (q1_ifb_f (by decide)).trans ?_
  refine (q1_ix_t (by decide)).trans ?_
  rw [hop]
  refine (q1_ifb_f (by decide)).trans ?_
  refine (q1_ifb_f (by decide)).trans ?_
  refine (q1_ifb_f (by decide)).trans ?_
  refine (q1_ifb_f (by decide)).trans ?_
  refine (q1_ifb_f (by decide)).trans ?_
  refine (q1_ifb_f (by decide)).trans ?_
  refine (q1_ifb_f (by decide)).trans ?_
  refine (q1_ifb_f (by decide)).trans ?_
  refine (q1_ifb_t rfl).trans ?_
  obtain ⟨z1, e1, v1⟩ := q1_g_X6_decide N h20
  obtain ⟨z2, e2, v2⟩ := q1_g_X7_decide N h
  refine (q1_bd e1).trans ?_
  refine (q1_bd e2).trans ?_
  refine (q1_ifb_t (v1.trans v2.symm)).trans ?_
  rfl

theorem q1_lp_8 (xs : Nat → Int32) (N : Nat) (h : 70000 ≤ N) (hop : xs 0 &&& 15 = 8) : f_L_law_23 4 xs N 2 0 0 0 0 0 0 0 q1_O 0 0 q1_O 2400 q1_O q1_O q1_OL q1_O 0 0 0 0 0 q1_O 12000 q1_O q1_O 0 q1_O 4000 q1_OL q1_O q1_O q1_O 0 0 q1_O q1_O q1_O 1 q1_O 4000 0 q1_O 4000 q1_O q1_B8 q1_O q1_O 0 2 1 0 0 0 0 0 0 0 0 0 0 0 0 0 q1_K2 q1_O q1_O q1_M2 q1_O q1_O q1_T2 q1_O q1_O q1_O q1_O q1_O q1_B8 q1_OL q1_OL q1_OL q1_O q1_O q1_OL 0 = some 1 := by
  have h20 : 20 ≤ N := Nat.le_trans (by decide) h
  have hop : xs (0 : Int32).toNatClampNeg &&& 15 = 8 := hop
  rw [f_L_law_23]
  dsimp only
  refine (q1_ifb_f (by decide)).trans ?_
  refine (q1_ix_t (by decide)).trans ?_
  rw [hop]
  refine (q1_ifb_f (by decide)).trans ?_
  refine (q1_ifb_f (by decide)).trans ?_
  refine (q1_ifb_f (by decide)).trans ?_
  refine (q1_ifb_f (by decide)).trans ?_
  refine (q1_ifb_f (by decide)).trans ?_
  refine (q1_ifb_f (by decide)).trans ?_
  refine (q1_ifb_f (by decide)).trans ?_
  refine (q1_ifb_f (by decide)).trans ?_
  refine (q1_ifb_f (by decide)).trans ?_
  refine (q1_ifb_t rfl).trans ?_
  obtain ⟨z1, e1, v1⟩ := q1_g_X6_not N h20
  obtain ⟨z2, e2, v2⟩ := q1_g_X7_not N h
  refine (q1_bd e1).trans ?_
  refine (q1_bd e2).trans ?_
  refine (q1_ifb_t (v1.trans v2.symm)).trans ?_
  rfl

theorem q1_lp_9 (xs : Nat → Int32) (N : Nat) (h : 70000 ≤ N) (hop : xs 0 &&& 15 = 9) : f_L_law_23 4 xs N 2 0 0 0 0 0 0 0 q1_O 0 0 q1_O 2400 q1_O q1_O q1_OL q1_O 0 0 0 0 0 q1_O 12000 q1_O q1_O 0 q1_O 4000 q1_OL q1_O q1_O q1_O 0 0 q1_O q1_O q1_O 1 q1_O 4000 0 q1_O 4000 q1_O q1_B8 q1_O q1_O 0 2 1 0 0 0 0 0 0 0 0 0 0 0 0 0 q1_K2 q1_O q1_O q1_M2 q1_O q1_O q1_T2 q1_O q1_O q1_O q1_O q1_O q1_B8 q1_OL q1_OL q1_OL q1_O q1_O q1_OL 0 = some 1 := by
  have h20 : 20 ≤ N := Nat.le_trans (by decide) h
  have hop : xs (0 : Int32).toNatClampNeg &&& 15 = 9 := hop
  rw [f_L_law_23]
  dsimp only
  refine (q1_ifb_f (by decide)).trans ?_
  refine (q1_ix_t (by decide)).trans ?_
  rw [hop]
  refine (q1_ifb_f (by decide)).trans ?_
  refine (q1_ifb_f (by decide)).trans ?_
  refine (q1_ifb_f (by decide)).trans ?_
  refine (q1_ifb_f (by decide)).trans ?_
  refine (q1_ifb_f (by decide)).trans ?_
  refine (q1_ifb_f (by decide)).trans ?_
  refine (q1_ifb_f (by decide)).trans ?_
  refine (q1_ifb_f (by decide)).trans ?_
  refine (q1_ifb_f (by decide)).trans ?_
  refine (q1_ifb_f (by decide)).trans ?_
  refine (q1_ifb_t rfl).trans ?_
  refine (q1_ix_t (by decide)).trans ?_
  obtain ⟨z1, z2, e1, e2, e3, e4⟩ := q1_hx_told N h20 q1_OL (xs (0 + 1 : Int32).toNatClampNeg)
  refine (q1_bd e1).trans ?_
  refine (q1_ix_t (by decide)).trans ?_
  refine (q1_bd e2).trans ?_
  refine (q1_bd (z := _) rfl).trans ?_
  refine (q1_ifb_t e3).trans ?_
  by_cases hz : z1.1 = 0
  · refine (q1_ifb_t hz).trans ?_
    refine (q1_ix_t (by decide)).trans ?_
    refine (q1_ifb_t (e4 hz)).trans ?_
    rfl
  · refine (q1_ifb_f hz).trans ?_
    rfl

theorem q1_lp_10 (xs : Nat → Int32) (N : Nat) (h : 70000 ≤ N) (hop : xs 0 &&& 15 = 10) : f_L_law_23 4 xs N 2 0 0 0 0 0 0 0 q1_O 0 0 q1_O 2400 q1_O q1_O q1_OL q1_O 0 0 0 0 0 q1_O 12000 q1_O q1_O 0 q1_O 4000 q1_OL q1_O q1_O q1_O 0 0 q1_O q1_O q1_O 1 q1_O 4000 0 q1_O 4000 q1_O q1_B8 q1_O q1_O 0 2 1 0 0 0 0 0 0 0 0 0 0 0 0 0 q1_K2 q1_O q1_O q1_M2 q1_O q1_O q1_T2 q1_O q1_O q1_O q1_O q1_O q1_B8 q1_OL q1_OL q1_OL q1_O q1_O q1_OL 0 = some 1 := by
  have h20 : 20 ≤ N := Nat.le_trans (by decide) h
  have hop : xs (0 : Int32).toNatClampNeg &&& 15 = 10 := hop
  rw [f_L_law_23]
  dsimp only
  refine (q1_ifb_f (by decide)).trans ?_
  refine (q1_ix_t (by decide)).trans ?_
  rw [hop]
  refine (q1_ifb_f (by decide)).trans ?_
  refine (q1_ifb_f (by decide)).trans ?_
  refine (q1_ifb_f (by decide)).trans ?_
  refine (q1_ifb_f (by decide)).trans ?_
  refine (q1_ifb_f (by decide)).trans ?_
  refine (q1_ifb_f (by decide)).trans ?_
  refine (q1_ifb_f (by decide)).trans ?_
  refine (q1_ifb_f (by decide)).trans ?_
  refine (q1_ifb_f (by decide)).trans ?_
  refine (q1_ifb_f (by decide)).trans ?_
  refine (q1_ifb_f (by decide)).trans ?_
  refine (q1_ifb_t rfl).trans ?_
  obtain ⟨z1, e1, v1⟩ := q1_g_X6_write N h20
  obtain ⟨z2, e2, v2⟩ := q1_g_X7_write N h20
  refine (q1_bd e1).trans ?_
  refine (q1_bd e2).trans ?_
  refine (q1_ifb_t (v1.trans v2.symm)).trans ?_
  rfl

theorem q1_lp_11 (xs : Nat → Int32) (N : Nat) (h : 70000 ≤ N) (hop : xs 0 &&& 15 = 11) : f_L_law_23 4 xs N 2 0 0 0 0 0 0 0 q1_O 0 0 q1_O 2400 q1_O q1_O q1_OL q1_O 0 0 0 0 0 q1_O 12000 q1_O q1_O 0 q1_O 4000 q1_OL q1_O q1_O q1_O 0 0 q1_O q1_O q1_O 1 q1_O 4000 0 q1_O 4000 q1_O q1_B8 q1_O q1_O 0 2 1 0 0 0 0 0 0 0 0 0 0 0 0 0 q1_K2 q1_O q1_O q1_M2 q1_O q1_O q1_T2 q1_O q1_O q1_O q1_O q1_O q1_B8 q1_OL q1_OL q1_OL q1_O q1_O q1_OL 0 = some 1 := by
  have h20 : 20 ≤ N := Nat.le_trans (by decide) h
  have hop : xs (0 : Int32).toNatClampNeg &&& 15 = 11 := hop
  rw [f_L_law_23]
  dsimp only
  refine (q1_ifb_f (by decide)).trans ?_
  refine (q1_ix_t (by decide)).trans ?_
  rw [hop]
  refine (q1_ifb_f (by decide)).trans ?_
  refine (q1_ifb_f (by decide)).trans ?_
  refine (q1_ifb_f (by decide)).trans ?_
  refine (q1_ifb_f (by decide)).trans ?_
  refine (q1_ifb_f (by decide)).trans ?_
  refine (q1_ifb_f (by decide)).trans ?_
  refine (q1_ifb_f (by decide)).trans ?_
  refine (q1_ifb_f (by decide)).trans ?_
  refine (q1_ifb_f (by decide)).trans ?_
  refine (q1_ifb_f (by decide)).trans ?_
  refine (q1_ifb_f (by decide)).trans ?_
  refine (q1_ifb_f (by decide)).trans ?_
  refine (q1_ifb_t rfl).trans ?_
  refine (q1_ix_t (by decide)).trans ?_
  refine (q1_bd (q1_x6_out N h20 _)).trans ?_
  refine (q1_ix_t (by decide)).trans ?_
  refine (q1_bd (q1_x7_out N h20 _)).trans ?_
  refine (q1_ifb_t (by decide)).trans ?_
  rfl

theorem q1_lp_12 (xs : Nat → Int32) (N : Nat) (h : 70000 ≤ N) (hop : xs 0 &&& 15 = 12) : f_L_law_23 4 xs N 2 0 0 0 0 0 0 0 q1_O 0 0 q1_O 2400 q1_O q1_O q1_OL q1_O 0 0 0 0 0 q1_O 12000 q1_O q1_O 0 q1_O 4000 q1_OL q1_O q1_O q1_O 0 0 q1_O q1_O q1_O 1 q1_O 4000 0 q1_O 4000 q1_O q1_B8 q1_O q1_O 0 2 1 0 0 0 0 0 0 0 0 0 0 0 0 0 q1_K2 q1_O q1_O q1_M2 q1_O q1_O q1_T2 q1_O q1_O q1_O q1_O q1_O q1_B8 q1_OL q1_OL q1_OL q1_O q1_O q1_OL 0 = some 1 := by
  have h20 : 20 ≤ N := Nat.le_trans (by decide) h
  have hop : xs (0 : Int32).toNatClampNeg &&& 15 = 12 := hop
  rw [f_L_law_23]
  dsimp only
  refine (q1_ifb_f (by decide)).trans ?_
  refine (q1_ix_t (by decide)).trans ?_
  rw [hop]
  refine (q1_ifb_f (by decide)).trans ?_
  refine (q1_ifb_f (by decide)).trans ?_
  refine (q1_ifb_f (by decide)).trans ?_
  refine (q1_ifb_f (by decide)).trans ?_
  refine (q1_ifb_f (by decide)).trans ?_
  refine (q1_ifb_f (by decide)).trans ?_
  refine (q1_ifb_f (by decide)).trans ?_
  refine (q1_ifb_f (by decide)).trans ?_
  refine (q1_ifb_f (by decide)).trans ?_
  refine (q1_ifb_f (by decide)).trans ?_
  refine (q1_ifb_f (by decide)).trans ?_
  refine (q1_ifb_f (by decide)).trans ?_
  refine (q1_ifb_f (by decide)).trans ?_
  refine (q1_ifb_t rfl).trans ?_
  obtain ⟨z1, e1, v1⟩ := q1_g_X6_pass N h20
  obtain ⟨z2, e2, v2⟩ := q1_g_X7_pass N h20
  refine (q1_bd e1).trans ?_
  refine (q1_bd e2).trans ?_
  refine (q1_ifb_t (v1.trans v2.symm)).trans ?_
  rfl

theorem q1_lp_13 (xs : Nat → Int32) (N : Nat) (h : 70000 ≤ N) (hop : xs 0 &&& 15 = 13) : f_L_law_23 4 xs N 2 0 0 0 0 0 0 0 q1_O 0 0 q1_O 2400 q1_O q1_O q1_OL q1_O 0 0 0 0 0 q1_O 12000 q1_O q1_O 0 q1_O 4000 q1_OL q1_O q1_O q1_O 0 0 q1_O q1_O q1_O 1 q1_O 4000 0 q1_O 4000 q1_O q1_B8 q1_O q1_O 0 2 1 0 0 0 0 0 0 0 0 0 0 0 0 0 q1_K2 q1_O q1_O q1_M2 q1_O q1_O q1_T2 q1_O q1_O q1_O q1_O q1_O q1_B8 q1_OL q1_OL q1_OL q1_O q1_O q1_OL 0 = some 1 := by
  have h20 : 20 ≤ N := Nat.le_trans (by decide) h
  have hop : xs (0 : Int32).toNatClampNeg &&& 15 = 13 := hop
  rw [f_L_law_23]
  dsimp only
  refine (q1_ifb_f (by decide)).trans ?_
  refine (q1_ix_t (by decide)).trans ?_
  rw [hop]
  refine (q1_ifb_t (by decide)).trans ?_
  rfl

theorem q1_lp_14 (xs : Nat → Int32) (N : Nat) (h : 70000 ≤ N) (hop : xs 0 &&& 15 = 14) : f_L_law_23 4 xs N 2 0 0 0 0 0 0 0 q1_O 0 0 q1_O 2400 q1_O q1_O q1_OL q1_O 0 0 0 0 0 q1_O 12000 q1_O q1_O 0 q1_O 4000 q1_OL q1_O q1_O q1_O 0 0 q1_O q1_O q1_O 1 q1_O 4000 0 q1_O 4000 q1_O q1_B8 q1_O q1_O 0 2 1 0 0 0 0 0 0 0 0 0 0 0 0 0 q1_K2 q1_O q1_O q1_M2 q1_O q1_O q1_T2 q1_O q1_O q1_O q1_O q1_O q1_B8 q1_OL q1_OL q1_OL q1_O q1_O q1_OL 0 = some 1 := by
  have h20 : 20 ≤ N := Nat.le_trans (by decide) h
  have hop : xs (0 : Int32).toNatClampNeg &&& 15 = 14 := hop
  rw [f_L_law_23]
  dsimp only
  refine (q1_ifb_f (by decide)).trans ?_
  refine (q1_ix_t (by decide)).trans ?_
  rw [hop]
  refine (q1_ifb_t (by decide)).trans ?_
  rfl

theorem q1_lp_15 (xs : Nat → Int32) (N : Nat) (h : 70000 ≤ N) (hop : xs 0 &&& 15 = 15) : f_L_law_23 4 xs N 2 0 0 0 0 0 0 0 q1_O 0 0 q1_O 2400 q1_O q1_O q1_OL q1_O 0 0 0 0 0 q1_O 12000 q1_O q1_O 0 q1_O 4000 q1_OL q1_O q1_O q1_O 0 0 q1_O q1_O q1_O 1 q1_O 4000 0 q1_O 4000 q1_O q1_B8 q1_O q1_O 0 2 1 0 0 0 0 0 0 0 0 0 0 0 0 0 q1_K2 q1_O q1_O q1_M2 q1_O q1_O q1_T2 q1_O q1_O q1_O q1_O q1_O q1_B8 q1_OL q1_OL q1_OL q1_O q1_O q1_OL 0 = some 1 := by
  have h20 : 20 ≤ N := Nat.le_trans (by decide) h
  have hop : xs (0 : Int32).toNatClampNeg &&& 15 = 15 := hop
  rw [f_L_law_23]
  dsimp only
  refine (q1_ifb_f (by decide)).trans ?_
  refine (q1_ix_t (by decide)).trans ?_
  rw [hop]
  refine (q1_ifb_t (by decide)).trans ?_
  rfl

theorem q1_law_p1 (L : Nat) (hL : L ≤ 4) (xs : Nat → Int32) (N : Nat) (h : 70000 ≤ N) : f_L_law_23 L xs N 2 0 0 0 0 0 0 0 q1_O 0 0 q1_O 2400 q1_O q1_O q1_OL q1_O 0 0 0 0 0 q1_O 12000 q1_O q1_O 0 q1_O 4000 q1_OL q1_O q1_O q1_O 0 0 q1_O q1_O q1_O 1 q1_O 4000 0 q1_O 4000 q1_O q1_B8 q1_O q1_O 0 2 1 0 0 0 0 0 0 0 0 0 0 0 0 0 q1_K2 q1_O q1_O q1_M2 q1_O q1_O q1_T2 q1_O q1_O q1_O q1_O q1_O q1_B8 q1_OL q1_OL q1_OL q1_O q1_O q1_OL 0 = some 1 := by
  have hc : L = 0 ∨ L = 1 ∨ L = 2 ∨ L = 3 ∨ L = 4 := by omega
  rcases hc with rfl | rfl | rfl | rfl | rfl
  · rfl
  · rfl
  · rfl
  · rfl
  · obtain ⟨k, hk, e⟩ := q1_op_in (xs 0)
    have hc : k = 0 ∨ k = 1 ∨ k = 2 ∨ k = 3 ∨ k = 4 ∨ k = 5 ∨ k = 6 ∨ k = 7 ∨ k = 8 ∨ k = 9 ∨ k = 10 ∨ k = 11 ∨ k = 12 ∨ k = 13 ∨ k = 14 ∨ k = 15 := by omega
    rcases hc with rfl | rfl | rfl | rfl | rfl | rfl | rfl | rfl | rfl | rfl | rfl | rfl | rfl | rfl | rfl | rfl
    · exact q1_lp_0 xs N h e
    · exact q1_lp_1 xs N h e
    · exact q1_lp_2 xs N h e
    · exact q1_lp_3 xs N h e
    · exact q1_lp_4 xs N h e
    · exact q1_lp_5 xs N h e
    · exact q1_lp_6 xs N h e
    · exact q1_lp_7 xs N h e
    · exact q1_lp_8 xs N h e
    · exact q1_lp_9 xs N h e
    · exact q1_lp_10 xs N h e
    · exact q1_lp_11 xs N h e
    · exact q1_lp_12 xs N h e
    · exact q1_lp_13 xs N h e
    · exact q1_lp_14 xs N h e
    · exact q1_lp_15 xs N h e

theorem q1_law_p1r (L : Nat) (hL : L ≤ 4) (xs : Nat → Int32) (N : Nat) (h : 70000 ≤ N) (r : Nat → Int32) (hr : r = q1_O) : f_L_law_23 L xs N 2 0 0 0 0 0 0 0 q1_O 0 0 q1_O 2400 q1_O q1_O q1_OL q1_O 0 0 0 0 0 q1_O 12000 q1_O q1_O 0 q1_O 4000 q1_OL q1_O q1_O q1_O 0 0 q1_O q1_O q1_O 1 q1_O 4000 0 q1_O 4000 q1_O q1_B8 q1_O q1_O 0 2 1 0 0 0 0 0 0 0 0 0 0 0 0 0 q1_K2 q1_O q1_O q1_M2 q1_O q1_O q1_T2 r q1_O q1_O q1_O q1_O q1_B8 q1_OL q1_OL q1_OL q1_O q1_O q1_OL 0 = some 1 := by
  subst hr
  exact q1_law_p1 L hL xs N h
theorem q1_x_place2c (N : Nat) (h : 20 ≤ N) : f_X7_place N 1 (upd q1_O 0 0) (upd q1_O 0 0) (upd q1_O 0 0) (upd q1_O 0 1) (upd q1_O 0 0) q1_O (upd q1_O 0 1) q1_OL 1 0 0 = some (1, 2, q1_K2, q1_O, q1_O, q1_M2, q1_O, q1_O, q1_T2) := by
  have v4 : ∀ k, upd q1_O k 0 = q1_O := fun k => q1_upd_same _ _ _ rfl
  rw [q1_x_place2 N h]
  simp only [v4]
