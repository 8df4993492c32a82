theorem pdq_35 : (parseMethodDescriptor "(JI)I").map (fun d => d.parameters.length) = some 2 := by decide +kernel
theorem wm_985 : (Cond.classLink "LinearTruthsLaw" 13 "java/lang/IllegalArgumentException") ∈ W0 := q_l 4 195 (by decide +kernel) (by decide +kernel)
theorem wm_986 : (Cond.classLink "LinearTruthsLaw" 15 "java/lang/UnsupportedOperationException") ∈ W0 := q_l 4 196 (by decide +kernel) (by decide +kernel)
theorem wm_987 : (Cond.methodLink "LinearTruthsLaw" 7 yX6_type) ∈ W0 := q_l 4 197 (by decide +kernel) (by decide +kernel)
theorem wm_1013 : (Cond.methodLink "LinearTruthsLaw" 17 yX6_value) ∈ W0 := q_l 4 223 (by decide +kernel) (by decide +kernel)
theorem wm_1023 : (Cond.classLink "LinearTruthsLaw" 25 "java/lang/IllegalStateException") ∈ W0 := q_l 4 233 (by decide +kernel) (by decide +kernel)
theorem wm_1024 : (Cond.methodLink "LinearTruthsLaw" 21 yX6_holds) ∈ W0 := q_l 4 234 (by decide +kernel) (by decide +kernel)
theorem wm_1065 : (Cond.methodLink "LinearTruthsLaw" 27 yX6_told) ∈ W0 := q_l 5 35 (by decide +kernel) (by decide +kernel)
theorem cv_X6_holds : Cv RX6 yX6_holds cX6_holds 3 (some .int) 0 := ⟨q_l 4 235 (by decide +kernel) (by decide +kernel), q_l 4 236 (by decide +kernel) (by decide +kernel), q_l 1 1 (by decide +kernel) (by decide +kernel), q_l 4 237 rfl (by decide +kernel), ⟨rfl, ncq_7.1, ncq_7.2, pdq_8⟩⟩
theorem cv_X6_told : Cv RX6 yX6_told cX6_told 2 (some .int) 1 := ⟨q_l 5 36 (by decide +kernel) (by decide +kernel), q_l 5 37 (by decide +kernel) (by decide +kernel), q_l 1 1 (by decide +kernel) (by decide +kernel), q_l 5 38 rfl (by decide +kernel), ⟨rfl, ncq_7.1, ncq_7.2, pdq_10⟩⟩
theorem cv_X6_type : Cv RX6 yX6_type cX6_type 5 (some .int) 2 := ⟨q_l 4 198 (by decide +kernel) (by decide +kernel), q_l 4 199 (by decide +kernel) (by decide +kernel), q_l 1 1 (by decide +kernel) (by decide +kernel), q_l 4 200 rfl (by decide +kernel), ⟨rfl, ncq_7.1, ncq_7.2, pdq_35⟩⟩
theorem cv_X6_value : Cv RX6 yX6_value cX6_value 4 none 3 := ⟨q_l 4 224 (by decide +kernel) (by decide +kernel), q_l 4 225 (by decide +kernel) (by decide +kernel), q_l 1 1 (by decide +kernel) (by decide +kernel), q_l 4 226 rfl (by decide +kernel), ⟨rfl, ncq_7.1, ncq_7.2, pdq_2⟩⟩
abbrev ws_L_type (cI cJ cB : ClassId) (a_p1 a_p1_freer a_p1_scribe a_p1_formula a_p1_copy a_p1_above a_p1_below a_p1_spans a_p1_found a_p1_reader a_p1_reader_bench a_p1_reader_sum a_p1_reader_waiting a_p1_reader_bytes a_p4 : Nat) (p1_loose : Int32) (p1_reader_length : Int32) (p1_reader_waits : Int32) (p1_reader_at : Int32) (p1_reader_opened : Int32) (p1_reader_parens : Int32) (p1_reader_great : Int32) (p1_reader_bytes : Nat → Int32) (p4 : Nat → Int64) : va_W := [(a_p1, .inr (8, [.ref a_p1_reader, .ref a_p1_freer, .ref a_p1_scribe, .ref a_p1_formula, .ref a_p1_copy, .ref a_p1_above, .ref a_p1_below, .ref a_p1_spans, .ref a_p1_found, .int p1_loose])), (a_p1_reader, .inr (4, [.ref a_p1_reader_bytes, .ref a_p1_reader_bench, .ref a_p1_reader_sum, .ref a_p1_reader_waiting, .int p1_reader_length, .int p1_reader_waits, .int p1_reader_at, .int p1_reader_opened, .int p1_reader_parens, .int p1_reader_great])), (a_p1_reader_bytes, .inl (cB, 240, .inl p1_reader_bytes)), (a_p4, .inl (cJ, 1, .inr (.inl p4)))]
abbrev rm_L_type : Room := { frames := 7, cells := 1, slots := 6, locals := 140 }
def f_L_type (N : Nat) (p1_reader_length : Int32) (p1_reader_bytes : Nat → Int32) (p4 : Nat → Int64) (x2 : Int64) (x3 : Int32) : Option (Int32 × (Int32) × (Nat → Int32) × (Nat → Int64)) := (f_X6_type N p1_reader_length p1_reader_bytes x2 x3).bind (fun z6 => ix 0 1 (some (0, z6.2.1, z6.2.2, vp_updL p4 (0 : Int32).toNatClampNeg z6.1.toInt64)))
set_option maxHeartbeats 4000000 in
set_option maxRecDepth 100000 in
theorem c_L_type (l : Launch) (D : va_G) (cI cJ cB : ClassId) (a_p1 a_p1_freer a_p1_scribe a_p1_formula a_p1_copy a_p1_above a_p1_below a_p1_spans a_p1_found a_p1_reader a_p1_reader_bench a_p1_reader_sum a_p1_reader_waiting a_p1_reader_bytes a_p4 : Nat) (sz : Nat) (p1_loose : Int32) (p1_reader_length : Int32) (p1_reader_waits : Int32) (p1_reader_at : Int32) (p1_reader_opened : Int32) (p1_reader_parens : Int32) (p1_reader_great : Int32) (p1_reader_bytes : Nat → Int32) (p4 : Nat → Int64) (x2 : Int64) (x3 : Int32) (N : Nat) {z : Int32 × (Int32) × (Nat → Int32) × (Nat → Int64)} (h : f_L_type N p1_reader_length p1_reader_bytes p4 x2 x3 = some z) : Mh l yL_type cL_type 6 (some .int) [(0, 11, 14, 13), (0, 11, 18, 15)] rm_L_type D (ty0 cI cJ cB) [.ref a_p1, .long x2, .int x3, .ref a_p4] sz (ws_L_type cI cJ cB a_p1 a_p1_freer a_p1_scribe a_p1_formula a_p1_copy a_p1_above a_p1_below a_p1_spans a_p1_found a_p1_reader a_p1_reader_bench a_p1_reader_sum a_p1_reader_waiting a_p1_reader_bytes a_p4 p1_loose p1_reader_length p1_reader_waits p1_reader_at p1_reader_opened p1_reader_parens p1_reader_great p1_reader_bytes p4) (some (.int z.1)) (ws_L_type cI cJ cB a_p1 a_p1_freer a_p1_scribe a_p1_formula a_p1_copy a_p1_above a_p1_below a_p1_spans a_p1_found a_p1_reader a_p1_reader_bench a_p1_reader_sum a_p1_reader_waiting a_p1_reader_bytes a_p4 p1_loose z.2.1 p1_reader_waits p1_reader_at p1_reader_opened p1_reader_parens p1_reader_great z.2.2.1 z.2.2.2) := by
  refine Mh.of (by decide) (Nat.le_of_ble_eq_true rfl) ?_
  intro p e s m below meth c CX htab hex hK hsz hP hD ls hl
  have CX : Cx p m c cL_type 6 s ([.ref a_p1, .long x2, .int x3, .ref a_p4] : List Value).toArray (Cond.codeWith yL_type cL_type 6 (some .int) [(0, 11, 14, 13), (0, 11, 18, 15)]) RL meth (some .int) := CX
  obtain ⟨F, hr, hlk, hNw⟩ := id CX
  have hx := F.1
  have hb := F.2.1
  have hown := F.2.2.2.1
  have hl : lv_has ls 6 [(0, .ref a_p1), (1, .long x2), (3, .int x3), (4, .ref a_p4)] := hl
  have hS : va_S (va_A (ws_L_type cI cJ cB a_p1 a_p1_freer a_p1_scribe a_p1_formula a_p1_copy a_p1_above a_p1_below a_p1_spans a_p1_found a_p1_reader a_p1_reader_bench a_p1_reader_sum a_p1_reader_waiting a_p1_reader_bytes a_p4 p1_loose p1_reader_length p1_reader_waits p1_reader_at p1_reader_opened p1_reader_parens p1_reader_great p1_reader_bytes p4) sz) s.heap s.heap [] := va_S.rf
  have hA : ∀ q, s.heap.size ≤ q → va_A (ws_L_type cI cJ cB a_p1 a_p1_freer a_p1_scribe a_p1_formula a_p1_copy a_p1_above a_p1_below a_p1_spans a_p1_found a_p1_reader a_p1_reader_bench a_p1_reader_sum a_p1_reader_waiting a_p1_reader_bytes a_p4 p1_loose p1_reader_length p1_reader_waits p1_reader_at p1_reader_opened p1_reader_parens p1_reader_great p1_reader_bytes p4) sz q := fun q hq => Or.inr (hsz ▸ hq)
  unfold f_L_type at h
  refine lv_aload hx hb dL_type_0 (lv_at hl 3 rfl) ?_
  refine lv_iconst (v := 0) hx hb dL_type_2 (by decide) ?_
  refine lv_aload_n hx hb dL_type_3 rfl (lv_at hl 0 rfl) ?_
  refine lv_lload_n hx hb dL_type_4 rfl (lv_at hl 1 rfl) ?_
  refine lv_iload_n hx hb dL_type_5 rfl (lv_at hl 2 rfl) ?_
  obtain ⟨z6, hz6, h⟩ := o_b h
  refine k_v (wn := (ws_L_type cI cJ cB a_p1 a_p1_freer a_p1_scribe a_p1_formula a_p1_copy a_p1_above a_p1_below a_p1_spans a_p1_found a_p1_reader a_p1_reader_bench a_p1_reader_sum a_p1_reader_waiting a_p1_reader_bytes a_p4 p1_loose z6.2.1 p1_reader_waits p1_reader_at p1_reader_opened p1_reader_parens p1_reader_great z6.2.2 p4)) (As := [.long x2, .int x3]) (rest := [.int 0, .ref a_p4]) F hNw hK hP hD hS hA (c_X6_type l D cI cJ cB a_p1 a_p1_freer a_p1_scribe a_p1_formula a_p1_copy a_p1_above a_p1_below a_p1_spans a_p1_found a_p1_reader a_p1_reader_bench a_p1_reader_sum a_p1_reader_waiting a_p1_reader_bytes _ p1_loose p1_reader_length p1_reader_waits p1_reader_at p1_reader_opened p1_reader_parens p1_reader_great p1_reader_bytes x2 x3 N hz6) wm_987 cv_X6_type [0, 1, 2] [3] [1, 2, 3, 0] (⟨rfl, rfl, rfl, by decide, rfl⟩ : Ix [0, 1, 2] [3] [1, 2, 3, 0] 4) rfl rfl rfl rfl rfl rfl ⟨rfl, rfl, by decide, by decide⟩ hl.1 rfl (Nat.le_of_ble_eq_true rfl) ⟨Nat.zero_le _, Nat.zero_le _⟩ dL_type_6 (fun H locs hP hD hS => ?_)
  refine lv_i2l hx hb dL_type_9 rfl ?_
  obtain ⟨hi10, h⟩ := o_ix h
  refine r_last (wn := (ws_L_type cI cJ cB a_p1 a_p1_freer a_p1_scribe a_p1_formula a_p1_copy a_p1_above a_p1_below a_p1_spans a_p1_found a_p1_reader a_p1_reader_bench a_p1_reader_sum a_p1_reader_waiting a_p1_reader_bytes a_p4 p1_loose z6.2.1 p1_reader_waits p1_reader_at p1_reader_opened p1_reader_parens p1_reader_great z6.2.2 (vp_updL p4 (0 : Int32).toNatClampNeg z6.1.toInt64))) F hK hP hD hS 3 1 hi10 rfl rfl rfl dL_type_10 (fun H locs hP hD hS => ?_)
  refine lv_goto (tgt := 22) hx hb dL_type_11 (by decide) ?_
  refine lv_iconst (v := 0) hx hb dL_type_22 (by decide) ?_
  obtain rfl := Option.some.inj h
  refine W.widen (k := 1) (n := 6) (by decide) (by decide) ?_
  exact r_ret (v := 0) F hr hlk rfl dL_type_23 hsz hP hD hS
set_option maxHeartbeats 4000000 in
set_option maxRecDepth 100000 in
theorem c_L_type_I (l : Launch) (D : va_G) (cI cJ cB : ClassId) (hst : l.stackTraces = false) (a_p1 a_p1_freer a_p1_scribe a_p1_formula a_p1_copy a_p1_above a_p1_below a_p1_spans a_p1_found a_p1_reader a_p1_reader_bench a_p1_reader_sum a_p1_reader_waiting a_p1_reader_bytes a_p4 : Nat) (sz : Nat) (p1_loose : Int32) (p1_reader_length : Int32) (p1_reader_waits : Int32) (p1_reader_at : Int32) (p1_reader_opened : Int32) (p1_reader_parens : Int32) (p1_reader_great : Int32) (p1_reader_bytes : Nat → Int32) (p4 : Nat → Int64) (x2 : Int64) (x3 : Int32) (N : Nat) (hz : f_X6_type_I N x2 x3 = some ()) : Mh l yL_type cL_type 6 (some .int) [(0, 11, 14, 13), (0, 11, 18, 15)] rm_L_type D (ty0 cI cJ cB) [.ref a_p1, .long x2, .int x3, .ref a_p4] sz (ws_L_type cI cJ cB a_p1 a_p1_freer a_p1_scribe a_p1_formula a_p1_copy a_p1_above a_p1_below a_p1_spans a_p1_found a_p1_reader a_p1_reader_bench a_p1_reader_sum a_p1_reader_waiting a_p1_reader_bytes a_p4 p1_loose p1_reader_length p1_reader_waits p1_reader_at p1_reader_opened p1_reader_parens p1_reader_great p1_reader_bytes p4) (some (.int 1)) (ws_L_type cI cJ cB a_p1 a_p1_freer a_p1_scribe a_p1_formula a_p1_copy a_p1_above a_p1_below a_p1_spans a_p1_found a_p1_reader a_p1_reader_bench a_p1_reader_sum a_p1_reader_waiting a_p1_reader_bytes a_p4 p1_loose p1_reader_length p1_reader_waits p1_reader_at p1_reader_opened p1_reader_parens p1_reader_great p1_reader_bytes p4) := by
  refine Mh.of (by decide) (Nat.le_of_ble_eq_true rfl) ?_
  intro p e s m below meth c CX htab hex hK hsz hP hD ls hl
  have CX : Cx p m c cL_type 6 s ([.ref a_p1, .long x2, .int x3, .ref a_p4] : List Value).toArray (Cond.codeWith yL_type cL_type 6 (some .int) [(0, 11, 14, 13), (0, 11, 18, 15)]) RL meth (some .int) := CX
  obtain ⟨F, hr, hlk, hNw⟩ := id CX
  have hx := F.1
  have hb := F.2.1
  have hown := F.2.2.2.1
  have hl : lv_has ls 6 [(0, .ref a_p1), (1, .long x2), (3, .int x3), (4, .ref a_p4)] := hl
  have hS : va_S (va_A (ws_L_type cI cJ cB a_p1 a_p1_freer a_p1_scribe a_p1_formula a_p1_copy a_p1_above a_p1_below a_p1_spans a_p1_found a_p1_reader a_p1_reader_bench a_p1_reader_sum a_p1_reader_waiting a_p1_reader_bytes a_p4 p1_loose p1_reader_length p1_reader_waits p1_reader_at p1_reader_opened p1_reader_parens p1_reader_great p1_reader_bytes p4) sz) s.heap s.heap [] := va_S.rf
  have hA : ∀ q, s.heap.size ≤ q → va_A (ws_L_type cI cJ cB a_p1 a_p1_freer a_p1_scribe a_p1_formula a_p1_copy a_p1_above a_p1_below a_p1_spans a_p1_found a_p1_reader a_p1_reader_bench a_p1_reader_sum a_p1_reader_waiting a_p1_reader_bytes a_p4 p1_loose p1_reader_length p1_reader_waits p1_reader_at p1_reader_opened p1_reader_parens p1_reader_great p1_reader_bytes p4) sz q := fun q hq => Or.inr (hsz ▸ hq)
  refine lv_aload hx hb dL_type_0 (lv_at hl 3 rfl) ?_
  refine lv_iconst (v := 0) hx hb dL_type_2 (by decide) ?_
  refine lv_aload_n hx hb dL_type_3 rfl (lv_at hl 0 rfl) ?_
  refine lv_lload_n hx hb dL_type_4 rfl (lv_at hl 1 rfl) ?_
  refine lv_iload_n hx hb dL_type_5 rfl (lv_at hl 2 rfl) ?_
  refine k_vx (wn := (ws_L_type cI cJ cB a_p1 a_p1_freer a_p1_scribe a_p1_formula a_p1_copy a_p1_above a_p1_below a_p1_spans a_p1_found a_p1_reader a_p1_reader_bench a_p1_reader_sum a_p1_reader_waiting a_p1_reader_bytes a_p4 p1_loose p1_reader_length p1_reader_waits p1_reader_at p1_reader_opened p1_reader_parens p1_reader_great p1_reader_bytes p4)) (As := [.long x2, .int x3]) (rest := [.int 0, .ref a_p4]) F hNw hex hK hP hD hS hA (c_X6_type_I l D cI cJ cB hst a_p1 a_p1_reader a_p1_freer a_p1_scribe a_p1_formula a_p1_copy a_p1_above a_p1_below a_p1_spans a_p1_found _ p1_loose x2 x3 N hz) wm_987 cv_X6_type [0] [1, 2, 3] [3, 0, 1, 2] (⟨rfl, rfl, rfl, by decide, rfl⟩ : Ix [0] [1, 2, 3] [3, 0, 1, 2] 4) rfl rfl rfl rfl rfl rfl ⟨rfl, rfl, by decide, by decide⟩ hl.1 rfl (Nat.le_of_ble_eq_true rfl) ⟨by decide, by decide⟩ dL_type_6 (fun ce q9 H locs hP hD hS hce hcv hcl => ?_)
  refine vx_catch (name := "java/lang/IllegalArgumentException") hown [] ⟨0, 11, 14, 13⟩ [⟨0, 11, 18, 15⟩] htab (fun z hz0 => by cases hz0) (by decide) (by decide) (F.2.2.2.2 _ (q_in wm_985)) (va_Nw.use rfl (hex.2.2.1 ("java/lang/IllegalArgumentException", "java/lang/IllegalArgumentException") (by decide))) hce hcv hcl ?_
  refine lv_astore (lv' := [(5, .ref q9), (0, .ref a_p1), (1, .long x2), (3, .int x3), (4, .ref a_p4)]) hx hb dL_type_14 hl (by decide) rfl (fun ls hl => ?_)
  refine lv_iconst (v := 1) hx hb dL_type_16 (by decide) ?_
  refine W.widen (k := 1) (n := 6) (by decide) (by decide) ?_
  exact r_ret (v := 1) F hr hlk rfl dL_type_17 hsz hP hD hS
set_option maxHeartbeats 4000000 in
set_option maxRecDepth 100000 in
theorem c_L_type_U (l : Launch) (D : va_G) (cI cJ cB : ClassId) (hst : l.stackTraces = false) (a_p1 a_p1_freer a_p1_scribe a_p1_formula a_p1_copy a_p1_above a_p1_below a_p1_spans a_p1_found a_p1_reader a_p1_reader_bench a_p1_reader_sum a_p1_reader_waiting a_p1_reader_bytes a_p4 : Nat) (sz : Nat) (p1_loose : Int32) (p1_reader_length : Int32) (p1_reader_waits : Int32) (p1_reader_at : Int32) (p1_reader_opened : Int32) (p1_reader_parens : Int32) (p1_reader_great : Int32) (p1_reader_bytes : Nat → Int32) (p4 : Nat → Int64) (x2 : Int64) (x3 : Int32) (N : Nat) (hz : f_X6_type_U N p1_reader_length x2 x3 = some ()) : Mh l yL_type cL_type 6 (some .int) [(0, 11, 14, 13), (0, 11, 18, 15)] rm_L_type D (ty0 cI cJ cB) [.ref a_p1, .long x2, .int x3, .ref a_p4] sz (ws_L_type cI cJ cB a_p1 a_p1_freer a_p1_scribe a_p1_formula a_p1_copy a_p1_above a_p1_below a_p1_spans a_p1_found a_p1_reader a_p1_reader_bench a_p1_reader_sum a_p1_reader_waiting a_p1_reader_bytes a_p4 p1_loose p1_reader_length p1_reader_waits p1_reader_at p1_reader_opened p1_reader_parens p1_reader_great p1_reader_bytes p4) (some (.int 2)) (ws_L_type cI cJ cB a_p1 a_p1_freer a_p1_scribe a_p1_formula a_p1_copy a_p1_above a_p1_below a_p1_spans a_p1_found a_p1_reader a_p1_reader_bench a_p1_reader_sum a_p1_reader_waiting a_p1_reader_bytes a_p4 p1_loose p1_reader_length p1_reader_waits p1_reader_at p1_reader_opened p1_reader_parens p1_reader_great p1_reader_bytes p4) := by
  refine Mh.of (by decide) (Nat.le_of_ble_eq_true rfl) ?_
  intro p e s m below meth c CX htab hex hK hsz hP hD ls hl
  have CX : Cx p m c cL_type 6 s ([.ref a_p1, .long x2, .int x3, .ref a_p4] : List Value).toArray (Cond.codeWith yL_type cL_type 6 (some .int) [(0, 11, 14, 13), (0, 11, 18, 15)]) RL meth (some .int) := CX
  obtain ⟨F, hr, hlk, hNw⟩ := id CX
  have hx := F.1
  have hb := F.2.1
  have hown := F.2.2.2.1
  have hl : lv_has ls 6 [(0, .ref a_p1), (1, .long x2), (3, .int x3), (4, .ref a_p4)] := hl
  have hS : va_S (va_A (ws_L_type cI cJ cB a_p1 a_p1_freer a_p1_scribe a_p1_formula a_p1_copy a_p1_above a_p1_below a_p1_spans a_p1_found a_p1_reader a_p1_reader_bench a_p1_reader_sum a_p1_reader_waiting a_p1_reader_bytes a_p4 p1_loose p1_reader_length p1_reader_waits p1_reader_at p1_reader_opened p1_reader_parens p1_reader_great p1_reader_bytes p4) sz) s.heap s.heap [] := va_S.rf
  have hA : ∀ q, s.heap.size ≤ q → va_A (ws_L_type cI cJ cB a_p1 a_p1_freer a_p1_scribe a_p1_formula a_p1_copy a_p1_above a_p1_below a_p1_spans a_p1_found a_p1_reader a_p1_reader_bench a_p1_reader_sum a_p1_reader_waiting a_p1_reader_bytes a_p4 p1_loose p1_reader_length p1_reader_waits p1_reader_at p1_reader_opened p1_reader_parens p1_reader_great p1_reader_bytes p4) sz q := fun q hq => Or.inr (hsz ▸ hq)
  refine lv_aload hx hb dL_type_0 (lv_at hl 3 rfl) ?_
  refine lv_iconst (v := 0) hx hb dL_type_2 (by decide) ?_
  refine lv_aload_n hx hb dL_type_3 rfl (lv_at hl 0 rfl) ?_
  refine lv_lload_n hx hb dL_type_4 rfl (lv_at hl 1 rfl) ?_
  refine lv_iload_n hx hb dL_type_5 rfl (lv_at hl 2 rfl) ?_
  refine k_vx (wn := (ws_L_type cI cJ cB a_p1 a_p1_freer a_p1_scribe a_p1_formula a_p1_copy a_p1_above a_p1_below a_p1_spans a_p1_found a_p1_reader a_p1_reader_bench a_p1_reader_sum a_p1_reader_waiting a_p1_reader_bytes a_p4 p1_loose p1_reader_length p1_reader_waits p1_reader_at p1_reader_opened p1_reader_parens p1_reader_great p1_reader_bytes p4)) (As := [.long x2, .int x3]) (rest := [.int 0, .ref a_p4]) F hNw hex hK hP hD hS hA (c_X6_type_U l D cI cJ cB hst a_p1 a_p1_freer a_p1_scribe a_p1_formula a_p1_copy a_p1_above a_p1_below a_p1_spans a_p1_found a_p1_reader a_p1_reader_bytes a_p1_reader_bench a_p1_reader_sum a_p1_reader_waiting _ p1_loose p1_reader_length p1_reader_waits p1_reader_at p1_reader_opened p1_reader_parens p1_reader_great x2 x3 N hz) wm_987 cv_X6_type [0, 1] [2, 3] [2, 3, 0, 1] (⟨rfl, rfl, rfl, by decide, rfl⟩ : Ix [0, 1] [2, 3] [2, 3, 0, 1] 4) rfl rfl rfl rfl rfl rfl ⟨rfl, rfl, by decide, by decide⟩ hl.1 rfl (Nat.le_of_ble_eq_true rfl) ⟨by decide, by decide⟩ dL_type_6 (fun ce q9 H locs hP hD hS hce hcv hcl => ?_)
  refine vx_catch (name := "java/lang/UnsupportedOperationException") hown [⟨0, 11, 14, 13⟩] ⟨0, 11, 18, 15⟩ [] htab (fun z hz0 => by simp only [List.mem_cons, List.not_mem_nil, or_false] at hz0; subst hz0; exact Or.inr ⟨by decide, "java/lang/IllegalArgumentException", F.2.2.2.2 _ (q_in wm_985), hex.2.2.2.2 ("java/lang/UnsupportedOperationException", "java/lang/IllegalArgumentException") (by decide)⟩) (by decide) (by decide) (F.2.2.2.2 _ (q_in wm_986)) (va_Nw.use rfl (hex.2.2.1 ("java/lang/UnsupportedOperationException", "java/lang/UnsupportedOperationException") (by decide))) hce hcv hcl ?_
  refine lv_astore (lv' := [(5, .ref q9), (0, .ref a_p1), (1, .long x2), (3, .int x3), (4, .ref a_p4)]) hx hb dL_type_18 hl (by decide) rfl (fun ls hl => ?_)
  refine lv_iconst (v := 2) hx hb dL_type_20 (by decide) ?_
  refine W.widen (k := 1) (n := 6) (by decide) (by decide) ?_
  exact r_ret (v := 2) F hr hlk rfl dL_type_21 hsz hP hD hS
abbrev ws_L_value (cI cJ cB : ClassId) (a_p1 a_p1_reader a_p1_freer a_p1_scribe a_p1_formula a_p1_copy a_p1_spans a_p1_found a_p1_above a_p1_below : Nat) (p1_loose : Int32) (p1_above : Nat → Int32) (p1_below : Nat → Int32) : va_W := [(a_p1, .inr (8, [.ref a_p1_reader, .ref a_p1_freer, .ref a_p1_scribe, .ref a_p1_formula, .ref a_p1_copy, .ref a_p1_above, .ref a_p1_below, .ref a_p1_spans, .ref a_p1_found, .int p1_loose])), (a_p1_above, .inl (cI, 8, .inl p1_above)), (a_p1_below, .inl (cI, 8, .inl p1_below))]
abbrev rm_L_value : Room := { frames := 7, cells := 1, slots := 6, locals := 140 }
def f_L_value (N : Nat) (p1_above : Nat → Int32) (p1_below : Nat → Int32) (x2 : Int32) (x3 : Int32) (x4 : Int32) : Option (Int32 × (Nat → Int32) × (Nat → Int32)) := (f_X6_value N p1_above p1_below x2 x3 x4).bind (fun z4 => some (0, z4.1, z4.2))
set_option maxHeartbeats 4000000 in
set_option maxRecDepth 100000 in
theorem c_L_value (l : Launch) (D : va_G) (cI cJ cB : ClassId) (a_p1 a_p1_reader a_p1_freer a_p1_scribe a_p1_formula a_p1_copy a_p1_spans a_p1_found a_p1_above a_p1_below : Nat) (sz : Nat) (p1_loose : Int32) (p1_above : Nat → Int32) (p1_below : Nat → Int32) (x2 : Int32) (x3 : Int32) (x4 : Int32) (N : Nat) {z : Int32 × (Nat → Int32) × (Nat → Int32)} (h : f_L_value N p1_above p1_below x2 x3 x4 = some z) : Mh l yL_value cL_value 5 (some .int) [(0, 7, 10, 13)] rm_L_value D (ty0 cI cJ cB) [.ref a_p1, .int x2, .int x3, .int x4] sz (ws_L_value cI cJ cB a_p1 a_p1_reader a_p1_freer a_p1_scribe a_p1_formula a_p1_copy a_p1_spans a_p1_found a_p1_above a_p1_below p1_loose p1_above p1_below) (some (.int z.1)) (ws_L_value cI cJ cB a_p1 a_p1_reader a_p1_freer a_p1_scribe a_p1_formula a_p1_copy a_p1_spans a_p1_found a_p1_above a_p1_below p1_loose z.2.1 z.2.2) := by
  refine Mh.of (by decide) (Nat.le_of_ble_eq_true rfl) ?_
  intro p e s m below meth c CX htab hex hK hsz hP hD ls hl
  have CX : Cx p m c cL_value 5 s ([.ref a_p1, .int x2, .int x3, .int x4] : List Value).toArray (Cond.codeWith yL_value cL_value 5 (some .int) [(0, 7, 10, 13)]) RL meth (some .int) := CX
  obtain ⟨F, hr, hlk, hNw⟩ := id CX
  have hx := F.1
  have hb := F.2.1
  have hown := F.2.2.2.1
  have hl : lv_has ls 5 [(0, .ref a_p1), (1, .int x2), (2, .int x3), (3, .int x4)] := hl
  have hS : va_S (va_A (ws_L_value cI cJ cB a_p1 a_p1_reader a_p1_freer a_p1_scribe a_p1_formula a_p1_copy a_p1_spans a_p1_found a_p1_above a_p1_below p1_loose p1_above p1_below) sz) s.heap s.heap [] := va_S.rf
  have hA : ∀ q, s.heap.size ≤ q → va_A (ws_L_value cI cJ cB a_p1 a_p1_reader a_p1_freer a_p1_scribe a_p1_formula a_p1_copy a_p1_spans a_p1_found a_p1_above a_p1_below p1_loose p1_above p1_below) sz q := fun q hq => Or.inr (hsz ▸ hq)
  unfold f_L_value at h
  refine lv_aload_n hx hb dL_value_0 rfl (lv_at hl 0 rfl) ?_
  refine lv_iload_n hx hb dL_value_1 rfl (lv_at hl 1 rfl) ?_
  refine lv_iload_n hx hb dL_value_2 rfl (lv_at hl 2 rfl) ?_
  refine lv_iload_n hx hb dL_value_3 rfl (lv_at hl 3 rfl) ?_
  obtain ⟨z4, hz4, h⟩ := o_b h
  refine k_v (wn := (ws_L_value cI cJ cB a_p1 a_p1_reader a_p1_freer a_p1_scribe a_p1_formula a_p1_copy a_p1_spans a_p1_found a_p1_above a_p1_below p1_loose z4.1 z4.2)) (As := [.int x2, .int x3, .int x4]) (rest := []) F hNw hK hP hD hS hA (c_X6_value l D cI cJ cB a_p1 a_p1_reader a_p1_freer a_p1_scribe a_p1_formula a_p1_copy a_p1_spans a_p1_found a_p1_above a_p1_below _ p1_loose p1_above p1_below x2 x3 x4 N hz4) wm_1013 cv_X6_value [0, 1, 2] [] [0, 1, 2] (⟨rfl, rfl, rfl, by decide, rfl⟩ : Ix [0, 1, 2] [] [0, 1, 2] 3) rfl rfl rfl rfl rfl rfl ⟨rfl, rfl, by decide, by decide⟩ hl.1 rfl (Nat.le_of_ble_eq_true rfl) ⟨Nat.zero_le _, Nat.zero_le _⟩ dL_value_4 (fun H locs hP hD hS => ?_)
  refine lv_goto (tgt := 14) hx hb dL_value_7 (by decide) ?_
  refine lv_iconst (v := 0) hx hb dL_value_14 (by decide) ?_
  obtain rfl := Option.some.inj h
  refine W.widen (k := 1) (n := 6) (by decide) (by decide) ?_
  exact r_ret (v := 0) F hr hlk rfl dL_value_15 hsz hP hD hS
set_option maxHeartbeats 4000000 in
set_option maxRecDepth 100000 in
theorem c_L_value_I (l : Launch) (D : va_G) (cI cJ cB : ClassId) (hst : l.stackTraces = false) (a_p1 a_p1_reader a_p1_freer a_p1_scribe a_p1_formula a_p1_copy a_p1_spans a_p1_found a_p1_above a_p1_below : Nat) (sz : Nat) (p1_loose : Int32) (p1_above : Nat → Int32) (p1_below : Nat → Int32) (x2 : Int32) (x3 : Int32) (x4 : Int32) (N : Nat) (hz : f_X6_value_I N x2 x3 x4 = some ()) : Mh l yL_value cL_value 5 (some .int) [(0, 7, 10, 13)] rm_L_value D (ty0 cI cJ cB) [.ref a_p1, .int x2, .int x3, .int x4] sz (ws_L_value cI cJ cB a_p1 a_p1_reader a_p1_freer a_p1_scribe a_p1_formula a_p1_copy a_p1_spans a_p1_found a_p1_above a_p1_below p1_loose p1_above p1_below) (some (.int 1)) (ws_L_value cI cJ cB a_p1 a_p1_reader a_p1_freer a_p1_scribe a_p1_formula a_p1_copy a_p1_spans a_p1_found a_p1_above a_p1_below p1_loose p1_above p1_below) := by
  refine Mh.of (by decide) (Nat.le_of_ble_eq_true rfl) ?_
  intro p e s m below meth c CX htab hex hK hsz hP hD ls hl
  have CX : Cx p m c cL_value 5 s ([.ref a_p1, .int x2, .int x3, .int x4] : List Value).toArray (Cond.codeWith yL_value cL_value 5 (some .int) [(0, 7, 10, 13)]) RL meth (some .int) := CX
  obtain ⟨F, hr, hlk, hNw⟩ := id CX
  have hx := F.1
  have hb := F.2.1
  have hown := F.2.2.2.1
  have hl : lv_has ls 5 [(0, .ref a_p1), (1, .int x2), (2, .int x3), (3, .int x4)] := hl
  have hS : va_S (va_A (ws_L_value cI cJ cB a_p1 a_p1_reader a_p1_freer a_p1_scribe a_p1_formula a_p1_copy a_p1_spans a_p1_found a_p1_above a_p1_below p1_loose p1_above p1_below) sz) s.heap s.heap [] := va_S.rf
  have hA : ∀ q, s.heap.size ≤ q → va_A (ws_L_value cI cJ cB a_p1 a_p1_reader a_p1_freer a_p1_scribe a_p1_formula a_p1_copy a_p1_spans a_p1_found a_p1_above a_p1_below p1_loose p1_above p1_below) sz q := fun q hq => Or.inr (hsz ▸ hq)
  refine lv_aload_n hx hb dL_value_0 rfl (lv_at hl 0 rfl) ?_
  refine lv_iload_n hx hb dL_value_1 rfl (lv_at hl 1 rfl) ?_
  refine lv_iload_n hx hb dL_value_2 rfl (lv_at hl 2 rfl) ?_
  refine lv_iload_n hx hb dL_value_3 rfl (lv_at hl 3 rfl) ?_
  refine k_vx (wn := (ws_L_value cI cJ cB a_p1 a_p1_reader a_p1_freer a_p1_scribe a_p1_formula a_p1_copy a_p1_spans a_p1_found a_p1_above a_p1_below p1_loose p1_above p1_below)) (As := [.int x2, .int x3, .int x4]) (rest := []) F hNw hex hK hP hD hS hA (c_X6_value_I l D cI cJ cB hst a_p1 a_p1_reader a_p1_freer a_p1_scribe a_p1_formula a_p1_copy a_p1_above a_p1_below a_p1_spans a_p1_found _ p1_loose x2 x3 x4 N hz) wm_1013 cv_X6_value [0] [1, 2] [2, 0, 1] (⟨rfl, rfl, rfl, by decide, rfl⟩ : Ix [0] [1, 2] [2, 0, 1] 3) rfl rfl rfl rfl rfl rfl ⟨rfl, rfl, by decide, by decide⟩ hl.1 rfl (Nat.le_of_ble_eq_true rfl) ⟨by decide, by decide⟩ dL_value_4 (fun ce q9 H locs hP hD hS hce hcv hcl => ?_)
  refine vx_catch (name := "java/lang/IllegalArgumentException") hown [] ⟨0, 7, 10, 13⟩ [] htab (fun z hz0 => by cases hz0) (by decide) (by decide) (F.2.2.2.2 _ (q_in wm_985)) (va_Nw.use rfl (hex.2.2.1 ("java/lang/IllegalArgumentException", "java/lang/IllegalArgumentException") (by decide))) hce hcv hcl ?_
  refine lv_astore (lv' := [(4, .ref q9), (0, .ref a_p1), (1, .int x2), (2, .int x3), (3, .int x4)]) hx hb dL_value_10 hl (by decide) rfl (fun ls hl => ?_)
  refine lv_iconst (v := 1) hx hb dL_value_12 (by decide) ?_
  refine W.widen (k := 1) (n := 6) (by decide) (by decide) ?_
  exact r_ret (v := 1) F hr hlk rfl dL_value_13 hsz hP hD hS
abbrev ws_L_holds (cI cJ cB : ClassId) (a_p1 a_p1_reader a_p1_freer a_p1_scribe a_p1_copy a_p1_formula a_p1_formula_cells a_p1_above a_p1_below a_p1_spans a_p1_found a_p2 : Nat) (p1_loose : Int32) (p1_formula_rows : Int32) (p1_formula_cells : Nat → Int32) (p1_formula_cells_n : Nat) (p1_above : Nat → Int32) (p1_below : Nat → Int32) (p1_spans : Nat → Int32) (p1_found : Nat → Int32) (p2 : Nat → Int64) : va_W := [(a_p1, .inr (8, [.ref a_p1_reader, .ref a_p1_freer, .ref a_p1_scribe, .ref a_p1_formula, .ref a_p1_copy, .ref a_p1_above, .ref a_p1_below, .ref a_p1_spans, .ref a_p1_found, .int p1_loose])), (a_p1_formula, .inr (7, [.ref a_p1_formula_cells, .int p1_formula_rows])), (a_p1_formula_cells, .inl (cI, p1_formula_cells_n, .inl p1_formula_cells)), (a_p1_above, .inl (cI, 8, .inl p1_above)), (a_p1_below, .inl (cI, 8, .inl p1_below)), (a_p1_spans, .inl (cI, 400, .inl p1_spans)), (a_p1_found, .inl (cI, 400, .inl p1_found)), (a_p2, .inl (cJ, 1, .inr (.inl p2)))]
abbrev rm_L_holds : Room := { frames := 7, cells := 1, slots := 6, locals := 140 }
def f_L_holds (N : Nat) (p1_formula_rows : Int32) (p1_formula_cells : Nat → Int32) (p1_formula_cells_n : Nat) (p1_above : Nat → Int32) (p1_below : Nat → Int32) (p1_spans : Nat → Int32) (p1_found : Nat → Int32) (p2 : Nat → Int64) : Option (Int32 × (Nat → Int32) × (Nat → Int32) × (Nat → Int64)) := (f_X6_holds N p1_formula_rows p1_formula_cells p1_formula_cells_n p1_above p1_below p1_spans p1_found).bind (fun z3 => ix 0 1 (some (0, z3.2.1, z3.2.2, vp_updL p2 (0 : Int32).toNatClampNeg z3.1.toInt64)))
set_option maxHeartbeats 4000000 in
set_option maxRecDepth 100000 in
theorem c_L_holds (l : Launch) (D : va_G) (cI cJ cB : ClassId) (a_p1 a_p1_reader a_p1_freer a_p1_scribe a_p1_copy a_p1_formula a_p1_formula_cells a_p1_above a_p1_below a_p1_spans a_p1_found a_p2 : Nat) (sz : Nat) (p1_loose : Int32) (p1_formula_rows : Int32) (p1_formula_cells : Nat → Int32) (p1_formula_cells_n : Nat) (p1_above : Nat → Int32) (p1_below : Nat → Int32) (p1_spans : Nat → Int32) (p1_found : Nat → Int32) (p2 : Nat → Int64) (N : Nat) {z : Int32 × (Nat → Int32) × (Nat → Int32) × (Nat → Int64)} (h : f_L_holds N p1_formula_rows p1_formula_cells p1_formula_cells_n p1_above p1_below p1_spans p1_found p2 = some z) : Mh l yL_holds cL_holds 3 (some .int) [(0, 8, 11, 25)] rm_L_holds D (ty0 cI cJ cB) [.ref a_p1, .ref a_p2] sz (ws_L_holds cI cJ cB a_p1 a_p1_reader a_p1_freer a_p1_scribe a_p1_copy a_p1_formula a_p1_formula_cells a_p1_above a_p1_below a_p1_spans a_p1_found a_p2 p1_loose p1_formula_rows p1_formula_cells p1_formula_cells_n p1_above p1_below p1_spans p1_found p2) (some (.int z.1)) (ws_L_holds cI cJ cB a_p1 a_p1_reader a_p1_freer a_p1_scribe a_p1_copy a_p1_formula a_p1_formula_cells a_p1_above a_p1_below a_p1_spans a_p1_found a_p2 p1_loose p1_formula_rows p1_formula_cells p1_formula_cells_n p1_above p1_below z.2.1 z.2.2.1 z.2.2.2) := by
  refine Mh.of (by decide) (Nat.le_of_ble_eq_true rfl) ?_
  intro p e s m below meth c CX htab hex hK hsz hP hD ls hl
  have CX : Cx p m c cL_holds 3 s ([.ref a_p1, .ref a_p2] : List Value).toArray (Cond.codeWith yL_holds cL_holds 3 (some .int) [(0, 8, 11, 25)]) RL meth (some .int) := CX
  obtain ⟨F, hr, hlk, hNw⟩ := id CX
  have hx := F.1
  have hb := F.2.1
  have hown := F.2.2.2.1
  have hl : lv_has ls 3 [(0, .ref a_p1), (1, .ref a_p2)] := hl
  have hS : va_S (va_A (ws_L_holds cI cJ cB a_p1 a_p1_reader a_p1_freer a_p1_scribe a_p1_copy a_p1_formula a_p1_formula_cells a_p1_above a_p1_below a_p1_spans a_p1_found a_p2 p1_loose p1_formula_rows p1_formula_cells p1_formula_cells_n p1_above p1_below p1_spans p1_found p2) sz) s.heap s.heap [] := va_S.rf
  have hA : ∀ q, s.heap.size ≤ q → va_A (ws_L_holds cI cJ cB a_p1 a_p1_reader a_p1_freer a_p1_scribe a_p1_copy a_p1_formula a_p1_formula_cells a_p1_above a_p1_below a_p1_spans a_p1_found a_p2 p1_loose p1_formula_rows p1_formula_cells p1_formula_cells_n p1_above p1_below p1_spans p1_found p2) sz q := fun q hq => Or.inr (hsz ▸ hq)
  unfold f_L_holds at h
  refine lv_aload_n hx hb dL_holds_0 rfl (lv_at hl 1 rfl) ?_
  refine lv_iconst (v := 0) hx hb dL_holds_1 (by decide) ?_
  refine lv_aload_n hx hb dL_holds_2 rfl (lv_at hl 0 rfl) ?_
  obtain ⟨z3, hz3, h⟩ := o_b h
  refine k_v (wn := (ws_L_holds cI cJ cB a_p1 a_p1_reader a_p1_freer a_p1_scribe a_p1_copy a_p1_formula a_p1_formula_cells a_p1_above a_p1_below a_p1_spans a_p1_found a_p2 p1_loose p1_formula_rows p1_formula_cells p1_formula_cells_n p1_above p1_below z3.2.1 z3.2.2 p2)) (As := []) (rest := [.int 0, .ref a_p2]) F hNw hK hP hD hS hA (c_X6_holds l D cI cJ cB a_p1 a_p1_reader a_p1_freer a_p1_scribe a_p1_copy a_p1_formula a_p1_formula_cells a_p1_above a_p1_below a_p1_spans a_p1_found _ p1_loose p1_formula_rows p1_formula_cells p1_formula_cells_n p1_above p1_below p1_spans p1_found N hz3) wm_1024 cv_X6_holds [0, 1, 2, 3, 4, 5, 6] [7] [1, 2, 3, 4, 5, 6, 7, 0] (⟨rfl, rfl, rfl, by decide, rfl⟩ : Ix [0, 1, 2, 3, 4, 5, 6] [7] [1, 2, 3, 4, 5, 6, 7, 0] 8) rfl rfl rfl rfl rfl rfl ⟨rfl, rfl, by decide, by decide⟩ hl.1 rfl (Nat.le_of_ble_eq_true rfl) ⟨Nat.zero_le _, Nat.zero_le _⟩ dL_holds_3 (fun H locs hP hD hS => ?_)
  refine lv_i2l hx hb dL_holds_6 rfl ?_
  obtain ⟨hi7, h⟩ := o_ix h
  refine r_last (wn := (ws_L_holds cI cJ cB a_p1 a_p1_reader a_p1_freer a_p1_scribe a_p1_copy a_p1_formula a_p1_formula_cells a_p1_above a_p1_below a_p1_spans a_p1_found a_p2 p1_loose p1_formula_rows p1_formula_cells p1_formula_cells_n p1_above p1_below z3.2.1 z3.2.2 (vp_updL p2 (0 : Int32).toNatClampNeg z3.1.toInt64))) F hK hP hD hS 7 1 hi7 rfl rfl rfl dL_holds_7 (fun H locs hP hD hS => ?_)
  refine lv_goto (tgt := 14) hx hb dL_holds_8 (by decide) ?_
  refine lv_iconst (v := 0) hx hb dL_holds_14 (by decide) ?_
  obtain rfl := Option.some.inj h
  refine W.widen (k := 1) (n := 6) (by decide) (by decide) ?_
  exact r_ret (v := 0) F hr hlk rfl dL_holds_15 hsz hP hD hS
set_option maxHeartbeats 4000000 in
set_option maxRecDepth 100000 in
theorem c_L_holds_S (l : Launch) (D : va_G) (cI cJ cB : ClassId) (hst : l.stackTraces = false) (a_p1 a_p1_reader a_p1_freer a_p1_scribe a_p1_copy a_p1_formula a_p1_formula_cells a_p1_above a_p1_below a_p1_spans a_p1_found a_p2 : Nat) (sz : Nat) (p1_loose : Int32) (p1_formula_rows : Int32) (p1_formula_cells : Nat → Int32) (p1_formula_cells_n : Nat) (p1_above : Nat → Int32) (p1_below : Nat → Int32) (p1_spans : Nat → Int32) (p1_found : Nat → Int32) (p2 : Nat → Int64) (N : Nat) (hz : f_X6_holds_S N p1_formula_rows p1_formula_cells p1_formula_cells_n = some ()) : Mh l yL_holds cL_holds 3 (some .int) [(0, 8, 11, 25)] rm_L_holds D (ty0 cI cJ cB) [.ref a_p1, .ref a_p2] sz (ws_L_holds cI cJ cB a_p1 a_p1_reader a_p1_freer a_p1_scribe a_p1_copy a_p1_formula a_p1_formula_cells a_p1_above a_p1_below a_p1_spans a_p1_found a_p2 p1_loose p1_formula_rows p1_formula_cells p1_formula_cells_n p1_above p1_below p1_spans p1_found p2) (some (.int 1)) (ws_L_holds cI cJ cB a_p1 a_p1_reader a_p1_freer a_p1_scribe a_p1_copy a_p1_formula a_p1_formula_cells a_p1_above a_p1_below a_p1_spans a_p1_found a_p2 p1_loose p1_formula_rows p1_formula_cells p1_formula_cells_n p1_above p1_below p1_spans p1_found p2) := by
  refine Mh.of (by decide) (Nat.le_of_ble_eq_true rfl) ?_
  intro p e s m below meth c CX htab hex hK hsz hP hD ls hl
  have CX : Cx p m c cL_holds 3 s ([.ref a_p1, .ref a_p2] : List Value).toArray (Cond.codeWith yL_holds cL_holds 3 (some .int) [(0, 8, 11, 25)]) RL meth (some .int) := CX
  obtain ⟨F, hr, hlk, hNw⟩ := id CX
  have hx := F.1
  have hb := F.2.1
  have hown := F.2.2.2.1
  have hl : lv_has ls 3 [(0, .ref a_p1), (1, .ref a_p2)] := hl
  have hS : va_S (va_A (ws_L_holds cI cJ cB a_p1 a_p1_reader a_p1_freer a_p1_scribe a_p1_copy a_p1_formula a_p1_formula_cells a_p1_above a_p1_below a_p1_spans a_p1_found a_p2 p1_loose p1_formula_rows p1_formula_cells p1_formula_cells_n p1_above p1_below p1_spans p1_found p2) sz) s.heap s.heap [] := va_S.rf
  have hA : ∀ q, s.heap.size ≤ q → va_A (ws_L_holds cI cJ cB a_p1 a_p1_reader a_p1_freer a_p1_scribe a_p1_copy a_p1_formula a_p1_formula_cells a_p1_above a_p1_below a_p1_spans a_p1_found a_p2 p1_loose p1_formula_rows p1_formula_cells p1_formula_cells_n p1_above p1_below p1_spans p1_found p2) sz q := fun q hq => Or.inr (hsz ▸ hq)
  refine lv_aload_n hx hb dL_holds_0 rfl (lv_at hl 1 rfl) ?_
  refine lv_iconst (v := 0) hx hb dL_holds_1 (by decide) ?_
  refine lv_aload_n hx hb dL_holds_2 rfl (lv_at hl 0 rfl) ?_
  refine k_vx (wn := (ws_L_holds cI cJ cB a_p1 a_p1_reader a_p1_freer a_p1_scribe a_p1_copy a_p1_formula a_p1_formula_cells a_p1_above a_p1_below a_p1_spans a_p1_found a_p2 p1_loose p1_formula_rows p1_formula_cells p1_formula_cells_n p1_above p1_below p1_spans p1_found p2)) (As := []) (rest := [.int 0, .ref a_p2]) F hNw hex hK hP hD hS hA (c_X6_holds_S l D cI cJ cB hst a_p1 a_p1_reader a_p1_freer a_p1_scribe a_p1_copy a_p1_above a_p1_below a_p1_spans a_p1_found a_p1_formula a_p1_formula_cells _ p1_loose p1_formula_rows p1_formula_cells p1_formula_cells_n N hz) wm_1024 cv_X6_holds [0, 1, 2] [3, 4, 5, 6, 7] [5, 6, 7, 0, 1, 2, 3, 4] (⟨rfl, rfl, rfl, by decide, rfl⟩ : Ix [0, 1, 2] [3, 4, 5, 6, 7] [5, 6, 7, 0, 1, 2, 3, 4] 8) rfl rfl rfl rfl rfl rfl ⟨rfl, rfl, by decide, by decide⟩ hl.1 rfl (Nat.le_of_ble_eq_true rfl) ⟨by decide, by decide⟩ dL_holds_3 (fun ce q9 H locs hP hD hS hce hcv hcl => ?_)
  refine vx_catch (name := "java/lang/IllegalStateException") hown [] ⟨0, 8, 11, 25⟩ [] htab (fun z hz0 => by cases hz0) (by decide) (by decide) (F.2.2.2.2 _ (q_in wm_1023)) (va_Nw.use rfl (hex.2.2.1 ("java/lang/IllegalStateException", "java/lang/IllegalStateException") (by decide))) hce hcv hcl ?_
  refine lv_astore_n (lv' := [(2, .ref q9), (0, .ref a_p1), (1, .ref a_p2)]) hx hb dL_holds_11 rfl hl (by decide) rfl (fun ls hl => ?_)
  refine lv_iconst (v := 1) hx hb dL_holds_12 (by decide) ?_
  refine W.widen (k := 1) (n := 6) (by decide) (by decide) ?_
  exact r_ret (v := 1) F hr hlk rfl dL_holds_13 hsz hP hD hS
abbrev ws_L_told (cI cJ cB : ClassId) (a_p1 a_p1_reader a_p1_scribe a_p1_copy a_p1_above a_p1_below a_p1_freer a_p1_freer_bench a_p1_freer_body a_p1_freer_sum a_p1_freer_rowsOfPoints a_p1_freer_spans a_p1_freer_bound a_p1_formula a_p1_formula_cells a_p1_spans a_p1_found a_p3 : Nat) (p1_loose : Int32) (p1_freer_points : Int32) (p1_freer_pointsPut : Int32) (p1_freer_takenOut : Int32) (p1_formula_rows : Int32) (p1_formula_cells : Nat → Int32) (p1_formula_cells_n : Nat) (p1_spans : Nat → Int32) (p1_found : Nat → Int32) (p3 : Nat → Int64) : va_W := [(a_p1, .inr (8, [.ref a_p1_reader, .ref a_p1_freer, .ref a_p1_scribe, .ref a_p1_formula, .ref a_p1_copy, .ref a_p1_above, .ref a_p1_below, .ref a_p1_spans, .ref a_p1_found, .int p1_loose])), (a_p1_freer, .inr (3, [.ref a_p1_freer_bench, .ref a_p1_freer_body, .ref a_p1_freer_sum, .ref a_p1_freer_rowsOfPoints, .ref a_p1_freer_spans, .ref a_p1_freer_bound, .int p1_freer_points, .int p1_freer_pointsPut, .int p1_freer_takenOut])), (a_p1_formula, .inr (7, [.ref a_p1_formula_cells, .int p1_formula_rows])), (a_p1_formula_cells, .inl (cI, p1_formula_cells_n, .inl p1_formula_cells)), (a_p1_spans, .inl (cI, 400, .inl p1_spans)), (a_p1_found, .inl (cI, 400, .inl p1_found)), (a_p3, .inl (cJ, 1, .inr (.inl p3)))]
abbrev rm_L_told : Room := { frames := 7, cells := 1, slots := 6, locals := 140 }
def f_L_told (N : Nat) (p1_freer_pointsPut : Int32) (p1_freer_takenOut : Int32) (p1_formula_rows : Int32) (p1_formula_cells : Nat → Int32) (p1_formula_cells_n : Nat) (p1_spans : Nat → Int32) (p1_found : Nat → Int32) (p3 : Nat → Int64) (x2 : Int32) : Option (Int32 × (Nat → Int32) × (Nat → Int32) × (Nat → Int64)) := (f_X6_told N p1_freer_pointsPut p1_freer_takenOut p1_formula_rows p1_formula_cells p1_formula_cells_n p1_spans p1_found x2).bind (fun z4 => ix 0 1 (some (0, z4.2.1, z4.2.2, vp_updL p3 (0 : Int32).toNatClampNeg z4.1.toInt64)))
set_option maxHeartbeats 4000000 in
set_option maxRecDepth 100000 in
theorem c_L_told (l : Launch) (D : va_G) (cI cJ cB : ClassId) (a_p1 a_p1_reader a_p1_scribe a_p1_copy a_p1_above a_p1_below a_p1_freer a_p1_freer_bench a_p1_freer_body a_p1_freer_sum a_p1_freer_rowsOfPoints a_p1_freer_spans a_p1_freer_bound a_p1_formula a_p1_formula_cells a_p1_spans a_p1_found a_p3 : Nat) (sz : Nat) (p1_loose : Int32) (p1_freer_points : Int32) (p1_freer_pointsPut : Int32) (p1_freer_takenOut : Int32) (p1_formula_rows : Int32) (p1_formula_cells : Nat → Int32) (p1_formula_cells_n : Nat) (p1_spans : Nat → Int32) (p1_found : Nat → Int32) (p3 : Nat → Int64) (x2 : Int32) (N : Nat) {z : Int32 × (Nat → Int32) × (Nat → Int32) × (Nat → Int64)} (h : f_L_told N p1_freer_pointsPut p1_freer_takenOut p1_formula_rows p1_formula_cells p1_formula_cells_n p1_spans p1_found p3 x2 = some z) : Mh l yL_told cL_told 4 (some .int) [(0, 9, 12, 13)] rm_L_told D (ty0 cI cJ cB) [.ref a_p1, .int x2, .ref a_p3] sz (ws_L_told cI cJ cB a_p1 a_p1_reader a_p1_scribe a_p1_copy a_p1_above a_p1_below a_p1_freer a_p1_freer_bench a_p1_freer_body a_p1_freer_sum a_p1_freer_rowsOfPoints a_p1_freer_spans a_p1_freer_bound a_p1_formula a_p1_formula_cells a_p1_spans a_p1_found a_p3 p1_loose p1_freer_points p1_freer_pointsPut p1_freer_takenOut p1_formula_rows p1_formula_cells p1_formula_cells_n p1_spans p1_found p3) (some (.int z.1)) (ws_L_told cI cJ cB a_p1 a_p1_reader a_p1_scribe a_p1_copy a_p1_above a_p1_below a_p1_freer a_p1_freer_bench a_p1_freer_body a_p1_freer_sum a_p1_freer_rowsOfPoints a_p1_freer_spans a_p1_freer_bound a_p1_formula a_p1_formula_cells a_p1_spans a_p1_found a_p3 p1_loose p1_freer_points p1_freer_pointsPut p1_freer_takenOut p1_formula_rows p1_formula_cells p1_formula_cells_n z.2.1 z.2.2.1 z.2.2.2) := by
  refine Mh.of (by decide) (Nat.le_of_ble_eq_true rfl) ?_
  intro p e s m below meth c CX htab hex hK hsz hP hD ls hl
  have CX : Cx p m c cL_told 4 s ([.ref a_p1, .int x2, .ref a_p3] : List Value).toArray (Cond.codeWith yL_told cL_told 4 (some .int) [(0, 9, 12, 13)]) RL meth (some .int) := CX
  obtain ⟨F, hr, hlk, hNw⟩ := id CX
  have hx := F.1
  have hb := F.2.1
  have hown := F.2.2.2.1
  have hl : lv_has ls 4 [(0, .ref a_p1), (1, .int x2), (2, .ref a_p3)] := hl
  have hS : va_S (va_A (ws_L_told cI cJ cB a_p1 a_p1_reader a_p1_scribe a_p1_copy a_p1_above a_p1_below a_p1_freer a_p1_freer_bench a_p1_freer_body a_p1_freer_sum a_p1_freer_rowsOfPoints a_p1_freer_spans a_p1_freer_bound a_p1_formula a_p1_formula_cells a_p1_spans a_p1_found a_p3 p1_loose p1_freer_points p1_freer_pointsPut p1_freer_takenOut p1_formula_rows p1_formula_cells p1_formula_cells_n p1_spans p1_found p3) sz) s.heap s.heap [] := va_S.rf
  have hA : ∀ q, s.heap.size ≤ q → va_A (ws_L_told cI cJ cB a_p1 a_p1_reader a_p1_scribe a_p1_copy a_p1_above a_p1_below a_p1_freer a_p1_freer_bench a_p1_freer_body a_p1_freer_sum a_p1_freer_rowsOfPoints a_p1_freer_spans a_p1_freer_bound a_p1_formula a_p1_formula_cells a_p1_spans a_p1_found a_p3 p1_loose p1_freer_points p1_freer_pointsPut p1_freer_takenOut p1_formula_rows p1_formula_cells p1_formula_cells_n p1_spans p1_found p3) sz q := fun q hq => Or.inr (hsz ▸ hq)
  unfold f_L_told at h
  refine lv_aload_n hx hb dL_told_0 rfl (lv_at hl 2 rfl) ?_
  refine lv_iconst (v := 0) hx hb dL_told_1 (by decide) ?_
  refine lv_aload_n hx hb dL_told_2 rfl (lv_at hl 0 rfl) ?_
  refine lv_iload_n hx hb dL_told_3 rfl (lv_at hl 1 rfl) ?_
  obtain ⟨z4, hz4, h⟩ := o_b h
  refine k_v (wn := (ws_L_told cI cJ cB a_p1 a_p1_reader a_p1_scribe a_p1_copy a_p1_above a_p1_below a_p1_freer a_p1_freer_bench a_p1_freer_body a_p1_freer_sum a_p1_freer_rowsOfPoints a_p1_freer_spans a_p1_freer_bound a_p1_formula a_p1_formula_cells a_p1_spans a_p1_found a_p3 p1_loose p1_freer_points p1_freer_pointsPut p1_freer_takenOut p1_formula_rows p1_formula_cells p1_formula_cells_n z4.2.1 z4.2.2 p3)) (As := [.int x2]) (rest := [.int 0, .ref a_p3]) F hNw hK hP hD hS hA (c_X6_told l D cI cJ cB a_p1 a_p1_reader a_p1_scribe a_p1_copy a_p1_above a_p1_below a_p1_freer a_p1_freer_bench a_p1_freer_body a_p1_freer_sum a_p1_freer_rowsOfPoints a_p1_freer_spans a_p1_freer_bound a_p1_formula a_p1_formula_cells a_p1_spans a_p1_found _ p1_loose p1_freer_points p1_freer_pointsPut p1_freer_takenOut p1_formula_rows p1_formula_cells p1_formula_cells_n p1_spans p1_found x2 N hz4) wm_1065 cv_X6_told [0, 1, 2, 3, 4, 5] [6] [1, 2, 3, 4, 5, 6, 0] (⟨rfl, rfl, rfl, by decide, rfl⟩ : Ix [0, 1, 2, 3, 4, 5] [6] [1, 2, 3, 4, 5, 6, 0] 7) rfl rfl rfl rfl rfl rfl ⟨rfl, rfl, by decide, by decide⟩ hl.1 rfl (Nat.le_of_ble_eq_true rfl) ⟨Nat.zero_le _, Nat.zero_le _⟩ dL_told_4 (fun H locs hP hD hS => ?_)
  refine lv_i2l hx hb dL_told_7 rfl ?_
  obtain ⟨hi8, h⟩ := o_ix h
  refine r_last (wn := (ws_L_told cI cJ cB a_p1 a_p1_reader a_p1_scribe a_p1_copy a_p1_above a_p1_below a_p1_freer a_p1_freer_bench a_p1_freer_body a_p1_freer_sum a_p1_freer_rowsOfPoints a_p1_freer_spans a_p1_freer_bound a_p1_formula a_p1_formula_cells a_p1_spans a_p1_found a_p3 p1_loose p1_freer_points p1_freer_pointsPut p1_freer_takenOut p1_formula_rows p1_formula_cells p1_formula_cells_n z4.2.1 z4.2.2 (vp_updL p3 (0 : Int32).toNatClampNeg z4.1.toInt64))) F hK hP hD hS 6 1 hi8 rfl rfl rfl dL_told_8 (fun H locs hP hD hS => ?_)
  refine lv_goto (tgt := 15) hx hb dL_told_9 (by decide) ?_
  refine lv_iconst (v := 0) hx hb dL_told_15 (by decide) ?_
  obtain rfl := Option.some.inj h
  refine W.widen (k := 1) (n := 6) (by decide) (by decide) ?_
  exact r_ret (v := 0) F hr hlk rfl dL_told_16 hsz hP hD hS
set_option maxHeartbeats 4000000 in
set_option maxRecDepth 100000 in
theorem c_L_told_I (l : Launch) (D : va_G) (cI cJ cB : ClassId) (hst : l.stackTraces = false) (a_p1 a_p1_reader a_p1_scribe a_p1_copy a_p1_above a_p1_below a_p1_freer a_p1_freer_bench a_p1_freer_body a_p1_freer_sum a_p1_freer_rowsOfPoints a_p1_freer_spans a_p1_freer_bound a_p1_formula a_p1_formula_cells a_p1_spans a_p1_found a_p3 : Nat) (sz : Nat) (p1_loose : Int32) (p1_freer_points : Int32) (p1_freer_pointsPut : Int32) (p1_freer_takenOut : Int32) (p1_formula_rows : Int32) (p1_formula_cells : Nat → Int32) (p1_formula_cells_n : Nat) (p1_spans : Nat → Int32) (p1_found : Nat → Int32) (p3 : Nat → Int64) (x2 : Int32) (N : Nat) (hz : f_X6_told_I N x2 = some ()) : Mh l yL_told cL_told 4 (some .int) [(0, 9, 12, 13)] rm_L_told D (ty0 cI cJ cB) [.ref a_p1, .int x2, .ref a_p3] sz (ws_L_told cI cJ cB a_p1 a_p1_reader a_p1_scribe a_p1_copy a_p1_above a_p1_below a_p1_freer a_p1_freer_bench a_p1_freer_body a_p1_freer_sum a_p1_freer_rowsOfPoints a_p1_freer_spans a_p1_freer_bound a_p1_formula a_p1_formula_cells a_p1_spans a_p1_found a_p3 p1_loose p1_freer_points p1_freer_pointsPut p1_freer_takenOut p1_formula_rows p1_formula_cells p1_formula_cells_n p1_spans p1_found p3) (some (.int 1)) (ws_L_told cI cJ cB a_p1 a_p1_reader a_p1_scribe a_p1_copy a_p1_above a_p1_below a_p1_freer a_p1_freer_bench a_p1_freer_body a_p1_freer_sum a_p1_freer_rowsOfPoints a_p1_freer_spans a_p1_freer_bound a_p1_formula a_p1_formula_cells a_p1_spans a_p1_found a_p3 p1_loose p1_freer_points p1_freer_pointsPut p1_freer_takenOut p1_formula_rows p1_formula_cells p1_formula_cells_n p1_spans p1_found p3) := by
  refine Mh.of (by decide) (Nat.le_of_ble_eq_true rfl) ?_
  intro p e s m below meth c CX htab hex hK hsz hP hD ls hl
  have CX : Cx p m c cL_told 4 s ([.ref a_p1, .int x2, .ref a_p3] : List Value).toArray (Cond.codeWith yL_told cL_told 4 (some .int) [(0, 9, 12, 13)]) RL meth (some .int) := CX
  obtain ⟨F, hr, hlk, hNw⟩ := id CX
  have hx := F.1
  have hb := F.2.1
  have hown := F.2.2.2.1
  have hl : lv_has ls 4 [(0, .ref a_p1), (1, .int x2), (2, .ref a_p3)] := hl
  have hS : va_S (va_A (ws_L_told cI cJ cB a_p1 a_p1_reader a_p1_scribe a_p1_copy a_p1_above a_p1_below a_p1_freer a_p1_freer_bench a_p1_freer_body a_p1_freer_sum a_p1_freer_rowsOfPoints a_p1_freer_spans a_p1_freer_bound a_p1_formula a_p1_formula_cells a_p1_spans a_p1_found a_p3 p1_loose p1_freer_points p1_freer_pointsPut p1_freer_takenOut p1_formula_rows p1_formula_cells p1_formula_cells_n p1_spans p1_found p3) sz) s.heap s.heap [] := va_S.rf
  have hA : ∀ q, s.heap.size ≤ q → va_A (ws_L_told cI cJ cB a_p1 a_p1_reader a_p1_scribe a_p1_copy a_p1_above a_p1_below a_p1_freer a_p1_freer_bench a_p1_freer_body a_p1_freer_sum a_p1_freer_rowsOfPoints a_p1_freer_spans a_p1_freer_bound a_p1_formula a_p1_formula_cells a_p1_spans a_p1_found a_p3 p1_loose p1_freer_points p1_freer_pointsPut p1_freer_takenOut p1_formula_rows p1_formula_cells p1_formula_cells_n p1_spans p1_found p3) sz q := fun q hq => Or.inr (hsz ▸ hq)
  refine lv_aload_n hx hb dL_told_0 rfl (lv_at hl 2 rfl) ?_
  refine lv_iconst (v := 0) hx hb dL_told_1 (by decide) ?_
  refine lv_aload_n hx hb dL_told_2 rfl (lv_at hl 0 rfl) ?_
  refine lv_iload_n hx hb dL_told_3 rfl (lv_at hl 1 rfl) ?_
  refine k_vx (wn := (ws_L_told cI cJ cB a_p1 a_p1_reader a_p1_scribe a_p1_copy a_p1_above a_p1_below a_p1_freer a_p1_freer_bench a_p1_freer_body a_p1_freer_sum a_p1_freer_rowsOfPoints a_p1_freer_spans a_p1_freer_bound a_p1_formula a_p1_formula_cells a_p1_spans a_p1_found a_p3 p1_loose p1_freer_points p1_freer_pointsPut p1_freer_takenOut p1_formula_rows p1_formula_cells p1_formula_cells_n p1_spans p1_found p3)) (As := [.int x2]) (rest := [.int 0, .ref a_p3]) F hNw hex hK hP hD hS hA (c_X6_told_I l D cI cJ cB hst a_p1 a_p1_reader a_p1_freer a_p1_scribe a_p1_formula a_p1_copy a_p1_above a_p1_below a_p1_spans a_p1_found _ p1_loose x2 N hz) wm_1065 cv_X6_told [0] [1, 2, 3, 4, 5, 6] [6, 0, 1, 2, 3, 4, 5] (⟨rfl, rfl, rfl, by decide, rfl⟩ : Ix [0] [1, 2, 3, 4, 5, 6] [6, 0, 1, 2, 3, 4, 5] 7) rfl rfl rfl rfl rfl rfl ⟨rfl, rfl, by decide, by decide⟩ hl.1 rfl (Nat.le_of_ble_eq_true rfl) ⟨by decide, by decide⟩ dL_told_4 (fun ce q9 H locs hP hD hS hce hcv hcl => ?_)
  refine vx_catch (name := "java/lang/IllegalArgumentException") hown [] ⟨0, 9, 12, 13⟩ [] htab (fun z hz0 => by cases hz0) (by decide) (by decide) (F.2.2.2.2 _ (q_in wm_985)) (va_Nw.use rfl (hex.2.2.1 ("java/lang/IllegalArgumentException", "java/lang/IllegalArgumentException") (by decide))) hce hcv hcl ?_
  refine lv_astore_n (lv' := [(3, .ref q9), (0, .ref a_p1), (1, .int x2), (2, .ref a_p3)]) hx hb dL_told_12 rfl hl (by decide) rfl (fun ls hl => ?_)
  refine lv_iconst (v := 1) hx hb dL_told_13 (by decide) ?_
  refine W.widen (k := 1) (n := 6) (by decide) (by decide) ?_
  exact r_ret (v := 1) F hr hlk rfl dL_told_14 hsz hP hD hS
