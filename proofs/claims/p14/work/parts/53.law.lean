set_option maxHeartbeats 16000000 in
set_option maxRecDepth 100000 in
theorem law_loop (L : Nat) (hL : L ≤ 2048) (xs : Nat → Int32) (N : Nat) (hN : 110000 ≤ N) : ∀ (n y : Nat) (F : List (List Int32)) (u s : Nat) (p1_reader_waits p1_reader_at p1_reader_opened p1_reader_parens p1_reader_great : Int32) (p1_reader_bytes : Nat → Int32) (p1_reader_bench_parts p1_reader_bench_tree_rows : Int32) (p1_reader_bench_tree_cells p1_reader_bench_starts p1_reader_bench_looses : Nat → Int32) (p1_reader_sum_numbers : Nat → Int64) (p1_reader_waiting : Nat → Int32) (p1_freer_points p1_freer_pointsPut p1_freer_takenOut p1_freer_bench_parts p1_freer_bench_tree_rows : Int32) (p1_freer_bench_tree_cells : Nat → Int32) (p1_freer_bench_tree_cells_n : Nat) (p1_freer_bench_starts p1_freer_bench_looses : Nat → Int32) (p1_freer_body_rows : Int32) (p1_freer_body_cells : Nat → Int32) (p1_freer_sum_numbers : Nat → Int64) (p1_freer_rowsOfPoints p1_freer_spans p1_freer_bound : Nat → Int32) (p1_scribe_length p1_scribe_works : Int32) (p1_scribe_kept p1_scribe_spans p1_scribe_work : Nat → Int32) (p1_formula_rows : Int32) (p1_formula_cells : Nat → Int32) (p1_copy_rows : Int32) (p1_copy_cells p1_above p1_below p1_spans p1_found : Nat → Int32) (p2_thrown p2_points p2_takenOut p2_great p2_at p2_fault p2_open p2_wrong : Int32) (p2_by : Int64) (p2_sort p2_variable p2_pointCount : Int32) (p2_kind p2_left p2_right p2_many p2_bits p2_rows p2_table p2_roots p2_moved p2_text p2_out : Nat → Int32) (p2_row p2_sum p2_point : Nat → Int64) (p2_pointRows p2_pointSorts : Nat → Int32) (p3 : Nat → Int64), LI F u s p1_reader_bytes p1_reader_bench_parts p1_reader_bench_tree_rows p1_reader_bench_tree_cells p1_reader_bench_starts p1_reader_bench_looses p1_freer_bench_parts p1_freer_bench_tree_rows p1_freer_bench_tree_cells p1_freer_bench_tree_cells_n p1_freer_bench_starts p1_freer_bench_looses p1_scribe_length p1_scribe_kept p1_formula_rows p1_formula_cells p1_above p1_below p2_kind p2_left p2_right p2_many p2_bits p2_rows p2_table p2_roots p2_text p2_out → y ≤ L → L + 1 ≤ y + 4 * n → f_L_law_23 L xs N n (fv F) (Int32.ofNat s) p1_reader_waits p1_reader_at p1_reader_opened p1_reader_parens p1_reader_great p1_reader_bytes p1_reader_bench_parts p1_reader_bench_tree_rows p1_reader_bench_tree_cells 2400 p1_reader_bench_starts p1_reader_bench_looses p1_reader_sum_numbers p1_reader_waiting p1_freer_points p1_freer_pointsPut p1_freer_takenOut p1_freer_bench_parts p1_freer_bench_tree_rows p1_freer_bench_tree_cells p1_freer_bench_tree_cells_n p1_freer_bench_starts p1_freer_bench_looses p1_freer_body_rows p1_freer_body_cells 4000 p1_freer_sum_numbers p1_freer_rowsOfPoints p1_freer_spans p1_freer_bound p1_scribe_length p1_scribe_works p1_scribe_kept p1_scribe_spans p1_scribe_work p1_formula_rows p1_formula_cells 4000 p1_copy_rows p1_copy_cells 4000 p1_above p1_below p1_spans p1_found p2_thrown (Int32.ofNat u) 1 (Int32.ofNat s) p1_scribe_length p2_points p2_takenOut p2_great p2_at p2_fault p2_open p2_wrong p2_by p2_sort p2_variable p2_pointCount p2_kind p2_left p2_right p2_many p2_bits p2_rows p2_table p2_roots p2_moved p2_text p2_out p1_above p1_below p2_row p2_sum p2_point p2_pointRows p2_pointSorts p3 (Int32.ofNat y) = some 1 := by
  intro n
  induction n with
  | zero => intros; omega
  | succ n ih =>
    intro y F u s p1_reader_waits p1_reader_at p1_reader_opened p1_reader_parens p1_reader_great p1_reader_bytes p1_reader_bench_parts p1_reader_bench_tree_rows p1_reader_bench_tree_cells p1_reader_bench_starts p1_reader_bench_looses p1_reader_sum_numbers p1_reader_waiting p1_freer_points p1_freer_pointsPut p1_freer_takenOut p1_freer_bench_parts p1_freer_bench_tree_rows p1_freer_bench_tree_cells p1_freer_bench_tree_cells_n p1_freer_bench_starts p1_freer_bench_looses p1_freer_body_rows p1_freer_body_cells p1_freer_sum_numbers p1_freer_rowsOfPoints p1_freer_spans p1_freer_bound p1_scribe_length p1_scribe_works p1_scribe_kept p1_scribe_spans p1_scribe_work p1_formula_rows p1_formula_cells p1_copy_rows p1_copy_cells p1_above p1_below p1_spans p1_found p2_thrown p2_points p2_takenOut p2_great p2_at p2_fault p2_open p2_wrong p2_by p2_sort p2_variable p2_pointCount p2_kind p2_left p2_right p2_many p2_bits p2_rows p2_table p2_roots p2_moved p2_text p2_out p2_row p2_sum p2_point p2_pointRows p2_pointSorts p3 h hyL hyn
    obtain ⟨hT, hB1, hB2, hn, hO, hC, hV, hF, hS⟩ := h
    unfold f_L_law_23
    by_cases hend : L < y + 4
    · exact ifb_t ((L4 hL hyL).mpr hend)
    refine (ifb_f (fun g => hend ((L4 hL hyL).mp g))).trans ?_
    refine (ix_n y _ _ (by omega) (by omega)).trans ?_
    by_cases hsw : (((xs (Int32.ofNat y).toNatClampNeg) &&& 15).toInt < 0 ∨ 12 < ((xs (Int32.ofNat y).toNatClampNeg) &&& 15).toInt)
    · refine (ifb_t hsw).trans ?_
      unfold f_L_law_398
      rw [show Int32.ofNat y + 4 = Int32.ofNat (y + 4) from i_add y 4]
      exact ih (y + 4) F u s _ _ _ _ _ _ _ _ _ _ _ _ _ _ _ _ _ _ _ _ _ _ _ _ _ _ _ _ _ _ _ _ _ _ _ _ _ _ _ _ _ _ _ _ _ _ _ _ _ _ _ _ _ _ _ _ _ _ _ _ _ _ _ _ _ _ _ _ _ _ ⟨hT, hB1, hB2, hn, hO, hC, hV, hF, hS⟩ (by omega) (by omega)
    refine (ifb_f hsw).trans ?_
    by_cases h0 : ((xs (Int32.ofNat y).toNatClampNeg) &&& 15) = 0
    · refine (ifb_t h0).trans ?_
      obtain ⟨k, s', t1', t2', p3', b, e1, e2, hT', hb⟩ := lb_type N (by omega) hT p3 ((((xs ((Int32.ofNat y) + 1).toNatClampNeg).toInt64) <<< ((32 : Int32).toInt64 &&& 63)) ||| (((xs ((Int32.ofNat y) + 2).toNatClampNeg).toInt64) &&& 4294967295)) (xs ((Int32.ofNat y) + 3).toNatClampNeg) p2_thrown
      refine (ix_e (y + 1) (i_add y 1) (by omega) (by omega)).trans ?_
      refine (ix_e (y + 2) (i_add y 2) (by omega) (by omega)).trans ?_
      refine (ix_e (y + 3) (i_add y 3) (by omega) (by omega)).trans ?_
      refine (bd e1).trans ?_
      try dsimp only
      refine (ix_e (y + 1) (i_add y 1) (by omega) (by omega)).trans ?_
      refine (ix_e (y + 2) (i_add y 2) (by omega) (by omega)).trans ?_
      refine (ix_e (y + 3) (i_add y 3) (by omega) (by omega)).trans ?_
      refine (bd e2).trans ?_
      try dsimp only
      unfold f_L_law_398
      rw [show Int32.ofNat y + 4 = Int32.ofNat (y + 4) from i_add y 4]
      exact ih (y + 4) F u s' _ _ _ _ _ _ _ _ _ _ _ _ _ _ _ _ _ _ _ _ _ _ _ _ _ _ _ _ _ _ _ _ _ _ _ _ _ _ _ _ _ _ _ _ _ _ _ _ _ _ _ _ _ _ _ _ _ _ _ _ _ _ _ _ _ _ _ _ _ _ ⟨hT', hB1, hB2, hn, hO, hC, hV, hF, hS⟩ (by omega) (by omega)
    refine (ifb_f h0).trans ?_
    by_cases h1 : ((xs (Int32.ofNat y).toNatClampNeg) &&& 15) = 1
    · refine (ifb_t h1).trans ?_
      have e1 : f_X6_clear N (Int32.ofNat s) = some (Int32.ofNat s, 0) := rfl
      have e2 : f_X7_clear N p2_thrown (Int32.ofNat s) = some (Int32.ofNat s, 0, 0) := rfl
      refine (bd e1).trans ?_
      try dsimp only
      refine (bd e2).trans ?_
      try dsimp only
      unfold f_L_law_398
      rw [show Int32.ofNat y + 4 = Int32.ofNat (y + 4) from i_add y 4]
      exact ih (y + 4) F u 0 _ _ _ _ _ _ _ _ _ _ _ _ _ _ _ _ _ _ _ _ _ _ _ _ _ _ _ _ _ _ _ _ _ _ _ _ _ _ _ _ _ _ _ _ _ _ _ _ _ _ _ _ _ _ _ _ _ _ _ _ _ _ _ _ _ _ _ _ _ _ ⟨⟨by omega, fun i hi => absurd hi (by omega)⟩, hB1, hB2, hn, hO, hC, hV, hF, hS⟩ (by omega) (by omega)
    refine (ifb_f h1).trans ?_
    by_cases h2 : ((xs (Int32.ofNat y).toNatClampNeg) &&& 15) = 2
    · refine (ifb_t h2).trans ?_
      obtain ⟨F', an, wt', at', op', pr', gr', pa', ro1', ce', sa', lo', nu', wa', fr', fc', u', gr2, ap2, fa2, op2, wr2, ki', le', ri', ma', bi', ro', ta', rs', mo', row', su', e1, e2, hB1', hC', hF', hS'⟩ := lb_read N hN hT hB1 hC hF hS p1_reader_waits p1_reader_at p1_reader_opened p1_reader_parens p1_reader_great p1_reader_sum_numbers p1_reader_waiting p2_thrown p2_great p2_at p2_fault p2_open p2_wrong p2_moved p2_row p2_sum
      refine (bd e1).trans ?_
      try dsimp only
      refine (bd e2).trans ?_
      try dsimp only
      unfold f_L_law_398
      rw [show Int32.ofNat y + 4 = Int32.ofNat (y + 4) from i_add y 4]
      exact ih (y + 4) F' u' s _ _ _ _ _ _ _ _ _ _ _ _ _ _ _ _ _ _ _ _ _ _ _ _ _ _ _ _ _ _ _ _ _ _ _ _ _ _ _ _ _ _ _ _ _ _ _ _ _ _ _ _ _ _ _ _ _ _ _ _ _ _ _ _ _ _ _ _ _ _ ⟨hT, hB1', hB2, hn, hO, hC', hV, hF', hS'⟩ (by omega) (by omega)
    refine (ifb_f h2).trans ?_
    by_cases h3 : ((xs (Int32.ofNat y).toNatClampNeg) &&& 15) = 3
    · refine (ifb_t h3).trans ?_
      obtain ⟨e1, e2⟩ := lb_free hS N p2_thrown
      refine (bd e1).trans ?_
      try dsimp only
      refine (bd e2).trans ?_
      try dsimp only
      unfold f_L_law_398
      rw [show Int32.ofNat y + 4 = Int32.ofNat (y + 4) from i_add y 4]
      exact ih (y + 4) F u s _ _ _ _ _ _ _ _ _ _ _ _ _ _ _ _ _ _ _ _ _ _ _ _ _ _ _ _ _ _ _ _ _ _ _ _ _ _ _ _ _ _ _ _ _ _ _ _ _ _ _ _ _ _ _ _ _ _ _ _ _ _ _ _ _ _ _ _ _ _ ⟨hT, hB1, hB2, hn, hO, hC, hV, hF, hS⟩ (by omega) (by omega)
    refine (ifb_f h3).trans ?_
    by_cases h4 : ((xs (Int32.ofNat y).toNatClampNeg) &&& 15) = 4
    · refine (ifb_t h4).trans ?_
      obtain ⟨F', an, po', pp', tt', pa', ro1', ce', n', sa', lo', br', bc', nu', ps1', fr', fc', u', pts', tko', gr', by', so', va', pc', ki', le', ri', ma', bi', ro', ta', rs', mo', row', pn', pr', ps', e1, e2, hn', hB2', hC', hF', hS'⟩ := lb_frees N hN hB2 hn hC hF hS p1_freer_points p1_freer_pointsPut p1_freer_takenOut p1_freer_body_rows p1_freer_body_cells p1_freer_sum_numbers p1_freer_rowsOfPoints p2_thrown p2_points p2_takenOut p2_great p2_by p2_sort p2_variable p2_pointCount p2_moved p2_row p2_point p2_pointRows p2_pointSorts
      refine (bd e1).trans ?_
      try dsimp only
      refine (bd e2).trans ?_
      try dsimp only
      unfold f_L_law_398
      rw [show Int32.ofNat y + 4 = Int32.ofNat (y + 4) from i_add y 4]
      exact ih (y + 4) F' u' s _ _ _ _ _ _ _ _ _ _ _ _ _ _ _ _ _ _ _ _ _ _ _ _ _ _ _ _ _ _ _ _ _ _ _ _ _ _ _ _ _ _ _ _ _ _ _ _ _ _ _ _ _ _ _ _ _ _ _ _ _ _ _ _ _ _ _ _ _ _ ⟨hT, hB1, hB2', hn', hO, hC', hV, hF', hS'⟩ (by omega) (by omega)
    refine (ifb_f h4).trans ?_
    by_cases h5 : ((xs (Int32.ofNat y).toNatClampNeg) &&& 15) = 5
    · refine (ifb_t h5).trans ?_
      obtain ⟨k, ab', be', e1, e2, hV'⟩ := lb_value N hV (xs ((Int32.ofNat y) + 1).toNatClampNeg) (xs ((Int32.ofNat y) + 2).toNatClampNeg) (xs ((Int32.ofNat y) + 3).toNatClampNeg) p2_thrown
      refine (ix_e (y + 1) (i_add y 1) (by omega) (by omega)).trans ?_
      refine (ix_e (y + 2) (i_add y 2) (by omega) (by omega)).trans ?_
      refine (ix_e (y + 3) (i_add y 3) (by omega) (by omega)).trans ?_
      refine (bd e1).trans ?_
      try dsimp only
      refine (ix_e (y + 1) (i_add y 1) (by omega) (by omega)).trans ?_
      refine (ix_e (y + 2) (i_add y 2) (by omega) (by omega)).trans ?_
      refine (ix_e (y + 3) (i_add y 3) (by omega) (by omega)).trans ?_
      refine (bd e2).trans ?_
      try dsimp only
      unfold f_L_law_398
      rw [show Int32.ofNat y + 4 = Int32.ofNat (y + 4) from i_add y 4]
      exact ih (y + 4) F u s _ _ _ _ _ _ _ _ _ _ _ _ _ _ _ _ _ _ _ _ _ _ _ _ _ _ _ _ _ _ _ _ _ _ _ _ _ _ _ _ _ _ _ _ _ _ _ _ _ _ _ _ _ _ _ _ _ _ _ _ _ _ _ _ _ _ _ _ _ _ ⟨hT, hB1, hB2, hn, hO, hC, hV', hF, hS⟩ (by omega) (by omega)
    refine (ifb_f h5).trans ?_
    by_cases h6 : ((xs (Int32.ofNat y).toNatClampNeg) &&& 15) = 6
    · refine (ifb_t h6).trans ?_
      obtain ⟨k, sp', fo', p3', b, e1, e2, hb⟩ := lb_holds N (by omega) hS hC hV p1_spans p1_found p3 p2_thrown
      refine (bd e1).trans ?_
      try dsimp only
      refine (bd e2).trans ?_
      try dsimp only
      unfold f_L_law_398
      rw [show Int32.ofNat y + 4 = Int32.ofNat (y + 4) from i_add y 4]
      exact ih (y + 4) F u s _ _ _ _ _ _ _ _ _ _ _ _ _ _ _ _ _ _ _ _ _ _ _ _ _ _ _ _ _ _ _ _ _ _ _ _ _ _ _ _ _ _ _ _ _ _ _ _ _ _ _ _ _ _ _ _ _ _ _ _ _ _ _ _ _ _ _ _ _ _ ⟨hT, hB1, hB2, hn, hO, hC, hV, hF, hS⟩ (by omega) (by omega)
    refine (ifb_f h6).trans ?_
    by_cases h7 : ((xs (Int32.ofNat y).toNatClampNeg) &&& 15) = 7
    · refine (ifb_t h7).trans ?_
      obtain ⟨an, po', pp', tt', pa', ro1', ce', n', sa', lo', br', bc', nu', rp', sp', bo', cr', cc', u', pts', tko', gr', by', so', va', pc', ki', le', ri', ma', bi', ro', ta', rs', mo', row', pn', pr', ps', e1, e2, hn', hB2', hS'⟩ := lb_decide N hN hV hB2 hn hC hF hS p1_freer_points p1_freer_pointsPut p1_freer_takenOut p1_freer_body_rows p1_freer_body_cells p1_freer_sum_numbers p1_freer_rowsOfPoints p1_freer_spans p1_freer_bound p1_copy_rows p1_copy_cells p2_thrown p2_points p2_takenOut p2_great p2_by p2_sort p2_variable p2_pointCount p2_moved p2_row p2_point p2_pointRows p2_pointSorts
      refine (bd e1).trans ?_
      try dsimp only
      refine (bd e2).trans ?_
      try dsimp only
      unfold f_L_law_398
      rw [show Int32.ofNat y + 4 = Int32.ofNat (y + 4) from i_add y 4]
      exact ih (y + 4) F u' s _ _ _ _ _ _ _ _ _ _ _ _ _ _ _ _ _ _ _ _ _ _ _ _ _ _ _ _ _ _ _ _ _ _ _ _ _ _ _ _ _ _ _ _ _ _ _ _ _ _ _ _ _ _ _ _ _ _ _ _ _ _ _ _ _ _ _ _ _ _ ⟨hT, hB1, hB2', hn', hO, hC, hV, hF, hS'⟩ (by omega) (by omega)
    refine (ifb_f h7).trans ?_
    by_cases h8 : ((xs (Int32.ofNat y).toNatClampNeg) &&& 15) = 8
    · refine (ifb_t h8).trans ?_
      obtain ⟨F', an, fc', u', ki', le', ri', ma', bi', ro', ta', rs', mo', row', e1, e2, hfv, hC', hF', hS'⟩ := lb_not N hN hC hF hS p2_thrown p2_moved p2_row
      refine (bd e1).trans ?_
      try dsimp only
      refine (bd e2).trans ?_
      try dsimp only
      unfold f_L_law_398
      rw [show Int32.ofNat y + 4 = Int32.ofNat (y + 4) from i_add y 4, hfv]
      exact ih (y + 4) F' u' s _ _ _ _ _ _ _ _ _ _ _ _ _ _ _ _ _ _ _ _ _ _ _ _ _ _ _ _ _ _ _ _ _ _ _ _ _ _ _ _ _ _ _ _ _ _ _ _ _ _ _ _ _ _ _ _ _ _ _ _ _ _ _ _ _ _ _ _ _ _ ⟨hT, hB1, hB2, hn, hO, hC', hV, hF', hS'⟩ (by omega) (by omega)
    refine (ifb_f h8).trans ?_
    by_cases h9 : ((xs (Int32.ofNat y).toNatClampNeg) &&& 15) = 9
    · refine (ifb_t h9).trans ?_
      obtain ⟨k, sp', fo', p3', e1⟩ := lb_told6 N (by omega) hC p1_freer_pointsPut p1_freer_takenOut p1_spans p1_found p3 (xs ((Int32.ofNat y) + 1).toNatClampNeg)
      obtain ⟨b, k2, e2⟩ := o_told7 N hS hC.2.2 p2_thrown p2_points p2_takenOut (xs ((Int32.ofNat y) + 1).toNatClampNeg)
      refine (ix_e (y + 1) (i_add y 1) (by omega) (by omega)).trans ?_
      refine (bd e1).trans ?_
      try dsimp only
      refine (ix_e (y + 1) (i_add y 1) (by omega) (by omega)).trans ?_
      refine (bd e2).trans ?_
      try dsimp only
      unfold f_L_law_398
      rw [show Int32.ofNat y + 4 = Int32.ofNat (y + 4) from i_add y 4]
      exact ih (y + 4) F u s _ _ _ _ _ _ _ _ _ _ _ _ _ _ _ _ _ _ _ _ _ _ _ _ _ _ _ _ _ _ _ _ _ _ _ _ _ _ _ _ _ _ _ _ _ _ _ _ _ _ _ _ _ _ _ _ _ _ _ _ _ _ _ _ _ _ _ _ _ _ ⟨hT, hB1, hB2, hn, hO, hC, hV, hF, hS⟩ (by omega) (by omega)
    refine (ifb_f h9).trans ?_
    by_cases h10 : ((xs (Int32.ofNat y).toNatClampNeg) &&& 15) = 10
    · refine (ifb_t h10).trans ?_
      obtain ⟨m, wk', k1', sp', wo', k2', e1, e2, hO'⟩ := lb_write N (by omega) hS hC p1_scribe_length p1_scribe_works p1_scribe_kept p1_scribe_spans p1_scribe_work p2_thrown p1_scribe_length p2_out
      refine (bd e1).trans ?_
      try dsimp only
      refine (bd e2).trans ?_
      try dsimp only
      unfold f_L_law_398
      rw [show Int32.ofNat y + 4 = Int32.ofNat (y + 4) from i_add y 4]
      exact ih (y + 4) F u s _ _ _ _ _ _ _ _ _ _ _ _ _ _ _ _ _ _ _ _ _ _ _ _ _ _ _ _ _ _ _ _ _ _ _ _ _ _ _ _ _ _ _ _ _ _ _ _ _ _ _ _ _ _ _ _ _ _ _ _ _ _ _ _ _ _ _ _ _ _ ⟨hT, hB1, hB2, hn, hO', hC, hV, hF, hS⟩ (by omega) (by omega)
    refine (ifb_f h10).trans ?_
    by_cases h11 : ((xs (Int32.ofNat y).toNatClampNeg) &&& 15) = 11
    · refine (ifb_t h11).trans ?_
      obtain ⟨z, e1, e2⟩ := lb_out hO N (by omega) (xs ((Int32.ofNat y) + 1).toNatClampNeg) p2_thrown
      refine (ix_e (y + 1) (i_add y 1) (by omega) (by omega)).trans ?_
      refine (bd e1).trans ?_
      try dsimp only
      refine (ix_e (y + 1) (i_add y 1) (by omega) (by omega)).trans ?_
      refine (bd e2).trans ?_
      try dsimp only
      unfold f_L_law_398
      rw [show Int32.ofNat y + 4 = Int32.ofNat (y + 4) from i_add y 4]
      exact ih (y + 4) F u s _ _ _ _ _ _ _ _ _ _ _ _ _ _ _ _ _ _ _ _ _ _ _ _ _ _ _ _ _ _ _ _ _ _ _ _ _ _ _ _ _ _ _ _ _ _ _ _ _ _ _ _ _ _ _ _ _ _ _ _ _ _ _ _ _ _ _ _ _ _ ⟨hT, hB1, hB2, hn, hO, hC, hV, hF, hS⟩ (by omega) (by omega)
    refine (ifb_f h11).trans ?_
    by_cases h12 : ((xs (Int32.ofNat y).toNatClampNeg) &&& 15) = 12
    · refine (ifb_t h12).trans ?_
      obtain ⟨s', t1', t2', e1, e2, hT'⟩ := lb_pass hO N (by omega) p2_thrown hT
      refine (bd e1).trans ?_
      try dsimp only
      refine (bd e2).trans ?_
      try dsimp only
      refine (ifb_t ?_).trans ?_
      · first | rfl | exact (lg_eq0 _ _).mpr rfl | exact (lg_eq0 _ _).mpr (congrArg Int64.toInt (hb hk))
      unfold f_L_law_398
      rw [show Int32.ofNat y + 4 = Int32.ofNat (y + 4) from i_add y 4]
      exact ih (y + 4) F u s' _ _ _ _ _ _ _ _ _ _ _ _ _ _ _ _ _ _ _ _ _ _ _ _ _ _ _ _ _ _ _ _ _ _ _ _ _ _ _ _ _ _ _ _ _ _ _ _ _ _ _ _ _ _ _ _ _ _ _ _ _ _ _ _ _ _ _ _ _ _ ⟨hT', hB1, hB2, hn, hO, hC, hV, hF, hS⟩ (by omega) (by omega)
    refine (ifb_f h12).trans ?_
    exfalso
    obtain ⟨c, hc, e⟩ := sw13 hsw
    have : c = 0 ∨ c = 1 ∨ c = 2 ∨ c = 3 ∨ c = 4 ∨ c = 5 ∨ c = 6 ∨ c = 7 ∨ c = 8 ∨ c = 9 ∨ c = 10 ∨ c = 11 ∨ c = 12 := by omega
    rcases this with rfl | rfl | rfl | rfl | rfl | rfl | rfl | rfl | rfl | rfl | rfl | rfl | rfl
    · exact h0 e
    · exact h1 e
    · exact h2 e
    · exact h3 e
    · exact h4 e
    · exact h5 e
    · exact h6 e
    · exact h7 e
    · exact h8 e
    · exact h9 e
    · exact h10 e
    · exact h11 e
    · exact h12 e
