theorem pdq_23 : (parseMethodDescriptor "(LLinearTruths$Tree;)Z").map (fun d => d.parameters.length) = some 1 := by decide +kernel
theorem pdq_24 : (parseMethodDescriptor "(B)V").map (fun d => d.parameters.length) = some 1 := by decide +kernel
theorem pdq_25 : (parseMethodDescriptor "(J)I").map (fun d => d.parameters.length) = some 1 := by decide +kernel
theorem pdq_26 : (parseMethodDescriptor "(LLinearTruths$Bench;)V").map (fun d => d.parameters.length) = some 1 := by decide +kernel
theorem ncq_7 : "LinearTruths" ≠ "java/lang/invoke/MethodHandle" ∧ "LinearTruths" ≠ "java/lang/invoke/VarHandle" := by decide +kernel
theorem pdq_27 : (parseMethodDescriptor "(I)J").map (fun d => d.parameters.length) = some 1 := by decide +kernel
theorem inW_X6 : ∀ w ∈ u_ws RX6 TX6 10, w ∈ W0 := q_ls [(3, 43), (3, 45), (3, 47), (3, 49), (3, 51), (3, 53), (3, 55), (3, 57), (3, 59), (3, 61)] (by decide +kernel) (by decide +kernel)
theorem wm_583 : (Cond.fieldLink "LinearTruths" 12 "LinearTruths" "reader" "LLinearTruths$Reader;") ∈ W0 := q_l 3 33 (by decide +kernel) (by decide +kernel)
theorem wm_584 : (Cond.fieldLink "LinearTruths" 19 "LinearTruths" "freer" "LLinearTruths$Freer;") ∈ W0 := q_l 3 34 (by decide +kernel) (by decide +kernel)
theorem wm_585 : (Cond.fieldLink "LinearTruths" 26 "LinearTruths" "scribe" "LLinearTruths$Scribe;") ∈ W0 := q_l 3 35 (by decide +kernel) (by decide +kernel)
theorem wm_586 : (Cond.fieldLink "LinearTruths" 35 "LinearTruths" "formula" "LLinearTruths$Tree;") ∈ W0 := q_l 3 36 (by decide +kernel) (by decide +kernel)
theorem wm_587 : (Cond.fieldLink "LinearTruths" 39 "LinearTruths" "copy" "LLinearTruths$Tree;") ∈ W0 := q_l 3 37 (by decide +kernel) (by decide +kernel)
theorem wm_588 : (Cond.fieldLink "LinearTruths" 42 "LinearTruths" "above" "[I") ∈ W0 := q_l 3 38 (by decide +kernel) (by decide +kernel)
theorem wm_589 : (Cond.fieldLink "LinearTruths" 46 "LinearTruths" "below" "[I") ∈ W0 := q_l 3 39 (by decide +kernel) (by decide +kernel)
theorem wm_590 : (Cond.fieldLink "LinearTruths" 49 "LinearTruths" "spans" "[I") ∈ W0 := q_l 3 40 (by decide +kernel) (by decide +kernel)
theorem wm_591 : (Cond.fieldLink "LinearTruths" 52 "LinearTruths" "found" "[I") ∈ W0 := q_l 3 41 (by decide +kernel) (by decide +kernel)
theorem wm_592 : (Cond.fieldLink "LinearTruths" 96 "LinearTruths" "loose" "I") ∈ W0 := q_l 3 42 (by decide +kernel) (by decide +kernel)
theorem wm_622 : (Cond.methodLink "LinearTruths" 84 yX2_parse) ∈ W0 := q_l 3 72 (by decide +kernel) (by decide +kernel)
theorem wm_803 : (Cond.methodLink "LinearTruths" 92 yX6_become) ∈ W0 := q_l 4 13 (by decide +kernel) (by decide +kernel)
theorem wm_807 : (Cond.methodLink "LinearTruths" 135 yX5_become) ∈ W0 := q_l 4 17 (by decide +kernel) (by decide +kernel)
theorem wm_815 : (Cond.methodLink "LinearTruths" 142 yX0_lastLoose) ∈ W0 := q_l 4 25 (by decide +kernel) (by decide +kernel)
theorem wm_827 : (Cond.methodLink "LinearTruths" 99 yX1_run) ∈ W0 := q_l 4 37 (by decide +kernel) (by decide +kernel)
theorem wm_904 : (Cond.methodLink "LinearTruths" 138 yX1_putValue) ∈ W0 := q_l 4 114 (by decide +kernel) (by decide +kernel)
theorem wm_921 : (Cond.methodLink "LinearTruths" 150 yX0_lastKind) ∈ W0 := q_l 4 131 (by decide +kernel) (by decide +kernel)
theorem wm_926 : (Cond.methodLink "LinearTruths" 153 yX5_negate) ∈ W0 := q_l 4 136 (by decide +kernel) (by decide +kernel)
theorem wm_931 : (Cond.methodLink "LinearTruths" 168 yX3_put) ∈ W0 := q_l 4 141 (by decide +kernel) (by decide +kernel)
theorem wm_968 : (Cond.methodLink "LinearTruths" 173 yX3_letterAt) ∈ W0 := q_l 4 178 (by decide +kernel) (by decide +kernel)
theorem wm_977 : (Cond.methodLink "LinearTruths" 122 yJ9_min_7cf53) ∈ W0 := q_l 4 187 (by decide +kernel) (by decide +kernel)
theorem wm_978 : (Cond.methodLink "LinearTruths" 80 yX2_take) ∈ W0 := q_l 4 188 (by decide +kernel) (by decide +kernel)
theorem wm_1028 : (Cond.methodLink "LinearTruths" 113 yX5_howMany) ∈ W0 := q_l 4 238 (by decide +kernel) (by decide +kernel)
theorem wm_1048 : (Cond.methodLink "LinearTruths" 127 yX5_measure) ∈ W0 := q_l 5 18 (by decide +kernel) (by decide +kernel)
theorem wm_1049 : (Cond.methodLink "LinearTruths" 131 yX6_isTrue) ∈ W0 := q_l 5 19 (by decide +kernel) (by decide +kernel)
theorem wm_1053 : (Cond.methodLink "LinearTruths" 177 yX5_kind) ∈ W0 := q_l 5 23 (by decide +kernel) (by decide +kernel)
theorem wm_1054 : (Cond.methodLink "LinearTruths" 181 yX6_sumWithValues) ∈ W0 := q_l 5 24 (by decide +kernel) (by decide +kernel)
theorem wm_1058 : (Cond.methodLink "LinearTruths" 190 yX5_number) ∈ W0 := q_l 5 28 (by decide +kernel) (by decide +kernel)
theorem wm_1059 : (Cond.constantLong "LinearTruths" 193 2520) ∈ W0 := q_l 5 29 (by decide +kernel) (by decide +kernel)
theorem wm_1060 : (Cond.methodLink "LinearTruths" 195 yJ9_max_7cf53) ∈ W0 := q_l 5 30 (by decide +kernel) (by decide +kernel)
theorem wm_1061 : (Cond.methodLink "LinearTruths" 185 yX4_isTrue) ∈ W0 := q_l 5 31 (by decide +kernel) (by decide +kernel)
theorem wm_1069 : (Cond.methodLink "LinearTruths" 157 yX6_depth) ∈ W0 := q_l 5 39 (by decide +kernel) (by decide +kernel)
theorem nf_X6_71 : (RX6, 71, "LinearTruths$Reader", "length", "I", "LinearTruths") ∈ NF := by decide +kernel
theorem nf_X6_88 : (RX6, 88, "LinearTruths$Reader", "bench", "LLinearTruths$Bench;", "LinearTruths") ∈ NF := by decide +kernel
theorem nf_X6_103 : (RX6, 103, "LinearTruths$Freer", "bench", "LLinearTruths$Bench;", "LinearTruths") ∈ NF := by decide +kernel
theorem nf_X6_104 : (RX6, 104, "LinearTruths$Tree", "rows", "I", "LinearTruths") ∈ NF := by decide +kernel
theorem nf_X6_147 : (RX6, 147, "LinearTruths$Bench", "tree", "LLinearTruths$Tree;", "LinearTruths") ∈ NF := by decide +kernel
theorem nf_X6_160 : (RX6, 160, "LinearTruths$Freer", "pointsPut", "I", "LinearTruths") ∈ NF := by decide +kernel
theorem nf_X6_163 : (RX6, 163, "LinearTruths$Freer", "takenOut", "I", "LinearTruths") ∈ NF := by decide +kernel
theorem nf_X6_172 : (RX6, 172, "LinearTruths$Scribe", "length", "I", "LinearTruths") ∈ NF := by decide +kernel
theorem cv_X1_putValue : Cv RX1 yX1_putValue cX1_putValue 8 (some .boolean) 4 := ⟨q_l 4 115 (by decide +kernel) (by decide +kernel), q_l 4 116 (by decide +kernel) (by decide +kernel), q_l 1 7 (by decide +kernel) (by decide +kernel), q_l 4 117 rfl (by decide +kernel), ⟨rfl, ncq_6.1, ncq_6.2, pdq_22⟩⟩
theorem cv_X1_run : Cv RX1 yX1_run cX1_run 4 (some .boolean) 1 := ⟨q_l 4 38 (by decide +kernel) (by decide +kernel), q_l 4 39 (by decide +kernel) (by decide +kernel), q_l 1 7 (by decide +kernel) (by decide +kernel), q_l 4 40 rfl (by decide +kernel), ⟨rfl, ncq_6.1, ncq_6.2, pdq_23⟩⟩
theorem cv_X2_parse : Cv RX2 yX2_parse cX2_parse 2 (some .int) 0 := ⟨q_l 3 73 (by decide +kernel) (by decide +kernel), q_l 3 74 (by decide +kernel) (by decide +kernel), q_l 1 2 (by decide +kernel) (by decide +kernel), q_l 3 75 rfl (by decide +kernel), ⟨rfl, ncq_5.1, ncq_5.2, pdq_8⟩⟩
theorem cv_X2_take : Cv RX2 yX2_take cX2_take 2 none 1 := ⟨q_l 4 189 (by decide +kernel) (by decide +kernel), q_l 4 190 (by decide +kernel) (by decide +kernel), q_l 1 2 (by decide +kernel) (by decide +kernel), q_l 4 191 rfl (by decide +kernel), ⟨rfl, ncq_5.1, ncq_5.2, pdq_24⟩⟩
theorem cv_X3_letterAt : Cv RX3 yX3_letterAt cX3_letterAt 3 (some .int) 1 := ⟨q_l 4 179 (by decide +kernel) (by decide +kernel), q_l 4 180 (by decide +kernel) (by decide +kernel), q_l 1 8 (by decide +kernel) (by decide +kernel), q_l 4 181 rfl (by decide +kernel), ⟨rfl, ncq_4.1, ncq_4.2, pdq_25⟩⟩
theorem cv_X3_put : Cv RX3 yX3_put cX3_put 4 none 1 := ⟨q_l 4 142 (by decide +kernel) (by decide +kernel), q_l 4 143 (by decide +kernel) (by decide +kernel), q_l 1 8 (by decide +kernel) (by decide +kernel), q_l 4 144 rfl (by decide +kernel), ⟨rfl, ncq_4.1, ncq_4.2, pdq_21⟩⟩
theorem cv_X5_howMany : Cv RX5 yX5_howMany cX5_howMany 6 (some .int) 2 := ⟨q_l 4 239 (by decide +kernel) (by decide +kernel), q_l 5 0 (by decide +kernel) (by decide +kernel), q_l 1 4 (by decide +kernel) (by decide +kernel), q_l 5 1 rfl (by decide +kernel), ⟨rfl, ncq_2.1, ncq_2.2, pdq_12⟩⟩
theorem cv_X6_become : Cv RX6 yX6_become cX6_become 2 none 1 := ⟨q_l 4 15 (by decide +kernel) (by decide +kernel), q_l 0 20 (by decide +kernel) (by decide +kernel), q_l 1 1 (by decide +kernel) (by decide +kernel), q_l 4 16 rfl (by decide +kernel), ⟨rfl, ncq_7.1, ncq_7.2, pdq_26⟩⟩
theorem cv_X6_depth : Cv RX6 yX6_depth cX6_depth 7 (some .int) 0 := ⟨q_l 5 41 (by decide +kernel) (by decide +kernel), q_l 0 36 (by decide +kernel) (by decide +kernel), q_l 1 1 (by decide +kernel) (by decide +kernel), q_l 5 42 rfl (by decide +kernel), ⟨rfl, ncq_7.1, ncq_7.2, pdq_8⟩⟩
theorem cv_X6_isTrue : Cv RX6 yX6_isTrue cX6_isTrue 5 (some .boolean) 1 := ⟨q_l 5 21 (by decide +kernel) (by decide +kernel), q_l 0 34 (by decide +kernel) (by decide +kernel), q_l 1 1 (by decide +kernel) (by decide +kernel), q_l 5 22 rfl (by decide +kernel), ⟨rfl, ncq_7.1, ncq_7.2, pdq_18⟩⟩
theorem cv_X6_sumWithValues : Cv RX6 yX6_sumWithValues cX6_sumWithValues 6 (some .long) 1 := ⟨q_l 5 26 (by decide +kernel) (by decide +kernel), q_l 0 35 (by decide +kernel) (by decide +kernel), q_l 1 1 (by decide +kernel) (by decide +kernel), q_l 5 27 rfl (by decide +kernel), ⟨rfl, ncq_7.1, ncq_7.2, pdq_27⟩⟩
section G_X6_type
abbrev ws_X6_type (cI cJ cB : ClassId) (a0 a_freer a_scribe a_formula a_copy a_above a_below a_spans a_found a_reader a_reader_bench a_reader_sum a_reader_waiting a_reader_bytes : Nat) (loose : Int32) (reader_length : Int32) (reader_waits : Int32) (reader_at : Int32) (reader_opened : Int32) (reader_parens : Int32) (reader_great : Int32) (reader_bytes : Nat → Int32) : va_W := [(a0, .inr (8, [.ref a_reader, .ref a_freer, .ref a_scribe, .ref a_formula, .ref a_copy, .ref a_above, .ref a_below, .ref a_spans, .ref a_found, .int loose])), (a_reader, .inr (4, [.ref a_reader_bytes, .ref a_reader_bench, .ref a_reader_sum, .ref a_reader_waiting, .int reader_length, .int reader_waits, .int reader_at, .int reader_opened, .int reader_parens, .int reader_great])), (a_reader_bytes, .inl (cB, 240, .inl reader_bytes))]
abbrev rm_X6_type : Room := { frames := 1, cells := 0, slots := 0, locals := 21 }
def f_X6_type_48 (N : Nat) : Nat → Int32 → (Nat → Int32) → Int64 → Int32 → Int32 → Option (Int32 × (Int32) × (Nat → Int32))
  | 0 => fun _ _ _ _ _ => none
  | n + 1 => fun reader_length reader_bytes y1 y3 y4 => ifb (y3 ≤ y4) (some (reader_length, reader_length, reader_bytes)) ((f_X2_take N reader_length reader_bytes ((((y1.toUInt64 >>> ((8 * y4).toInt64.toUInt64 &&& Int64.toUInt64 63)).toInt64).toInt32).toInt8.toInt32)).bind (fun z67 => f_X6_type_48 N n z67.1 z67.2 y1 y3 (y4 + 1)))
def f_X6_type (N : Nat) (reader_length : Int32) (reader_bytes : Nat → Int32) (x1 : Int64) (x2 : Int32) : Option (Int32 × (Int32) × (Nat → Int32)) := ifb (x2 < 0) (none) (ifb (x2 ≤ 8) (ifb ((reader_length + x2) ≤ 240) (f_X6_type_48 N N reader_length reader_bytes x1 x2 0) (none)) (none))
variable {p : Program} {l : Launch} {e : Env} {s : State} {m : MethodId} {below : List Frame} {meth : Method} {c : Code} {args : Array Value} {x0 : Cond} {D : va_G} {cI cJ cB : ClassId} {sz N : Nat} {ws0 : va_W} {a0 a_freer a_scribe a_formula a_copy a_above a_below a_spans a_found a_reader a_reader_bench a_reader_sum a_reader_waiting a_reader_bytes : Nat} {loose : Int32} {reader_waits : Int32} {reader_at : Int32} {reader_opened : Int32} {reader_parens : Int32} {reader_great : Int32} {z : Int32 × (Int32) × (Nat → Int32)}
set_option maxHeartbeats 4000000 in
set_option maxRecDepth 100000 in
theorem w_X6_type_48 (CX : Cx p m c cX6_type 5 s args x0 RX6 meth (some .int)) (hK : va_K D vwCl (ty0 cI cJ cB) s) (hsz : s.heap.size = sz) : ∀ (n : Nat), ∀ (reader_length : Int32) (reader_bytes : Nat → Int32) (y1 : Int64) (y3 : Int32) (y4 : Int32) (H : Heap) (locs : List Loc) (ls : Array Slot), f_X6_type_48 N n reader_length reader_bytes y1 y3 y4 = some z → va_P D vwCl (ws_X6_type cI cJ cB a0 a_freer a_scribe a_formula a_copy a_above a_below a_spans a_found a_reader a_reader_bench a_reader_sum a_reader_waiting a_reader_bytes loose reader_length reader_waits reader_at reader_opened reader_parens reader_great reader_bytes) H → va_D (va_A ws0 sz) (ws_X6_type cI cJ cB a0 a_freer a_scribe a_formula a_copy a_above a_below a_spans a_found a_reader a_reader_bench a_reader_sum a_reader_waiting a_reader_bytes loose reader_length reader_waits reader_at reader_opened reader_parens reader_great reader_bytes) → va_S (va_A ws0 sz) s.heap H locs → lv_has ls 5 [(0, .ref a0), (1, .long y1), (3, .int y3), (4, .int y4)] → W p l e rm_X6_type s m args below meth c H locs 0 0 (MQ below (gQ D sz ws0 (ws_X6_type cI cJ cB a0 a_freer a_scribe a_formula a_copy a_above a_below a_spans a_found a_reader a_reader_bench a_reader_sum a_reader_waiting a_reader_bytes loose z.2.1 reader_waits reader_at reader_opened reader_parens reader_great z.2.2) (some (.int z.1))) args s 0 0 (va_A ws0 sz)) (F0 m 48 ls []) := by
  obtain ⟨F, hr, hlk, hNw⟩ := id CX
  have hx := F.1
  have hb := F.2.1
  have hown := F.2.2.2.1
  have hA : ∀ q, s.heap.size ≤ q → va_A ws0 sz q := fun q hq => Or.inr (hsz ▸ hq)
  intro n
  induction n with
  | zero =>
    intro reader_length reader_bytes y1 y3 y4 H locs ls h
    cases h
  | succ n ih =>
    intro reader_length reader_bytes y1 y3 y4 H locs ls h hP hD hS hl
    unfold f_X6_type_48 at h
    refine lv_iload hx hb dX6_type_48 (lv_at hl 3 rfl) ?_
    refine lv_iload_n hx hb dX6_type_50 rfl (lv_at hl 2 rfl) ?_
    refine lv_icmp_ge (tgt := 76) hx hb dX6_type_51 (by decide) (fun c51 => ?_) (fun c51 => ?_)
    · have h := o_t c51 h
      refine lv_aload_n hx hb dX6_type_76 rfl (lv_at hl 0 rfl) ?_
      refine r_get F hK hP 0 0 rfl inW_X6 wm_583 rfl (by decide) rfl dX6_type_77 ?_
      refine r_getN F hNw hK hP 1 4 rfl inW_X2 nf_X6_71 rfl (by decide) rfl dX6_type_80 ?_
      obtain rfl := Option.some.inj h
      exact r_ret (v := reader_length) F hr hlk rfl dX6_type_83 hsz hP hD hS
    · have h := o_f c51 h
      refine lv_aload_n hx hb dX6_type_54 rfl (lv_at hl 0 rfl) ?_
      refine r_get F hK hP 0 0 rfl inW_X6 wm_583 rfl (by decide) rfl dX6_type_55 ?_
      refine lv_lload_n hx hb dX6_type_58 rfl (lv_at hl 1 rfl) ?_
      refine lv_bipush (v := 8) hx hb dX6_type_59 (by decide) ?_
      refine lv_iload hx hb dX6_type_61 (lv_at hl 3 rfl) ?_
      refine lv_imul hx hb dX6_type_63 ?_
      refine lv_lushr hx hb dX6_type_64 rfl ?_
      refine lv_l2i hx hb dX6_type_65 rfl ?_
      refine lv_i2b hx hb dX6_type_66 rfl ?_
      obtain ⟨z67, hz67, h⟩ := o_b h
      refine k_v (wn := (ws_X6_type cI cJ cB a0 a_freer a_scribe a_formula a_copy a_above a_below a_spans a_found a_reader a_reader_bench a_reader_sum a_reader_waiting a_reader_bytes loose z67.1 reader_waits reader_at reader_opened reader_parens reader_great z67.2)) (As := [.int ((((y1.toUInt64 >>> ((8 * y4).toInt64.toUInt64 &&& Int64.toUInt64 63)).toInt64).toInt32).toInt8.toInt32)]) (rest := []) F hNw hK hP hD hS hA (c_X2_take l D cI cJ cB a_reader a_reader_bench a_reader_sum a_reader_waiting a_reader_bytes _ reader_length reader_waits reader_at reader_opened reader_parens reader_great reader_bytes ((((y1.toUInt64 >>> ((8 * y4).toInt64.toUInt64 &&& Int64.toUInt64 63)).toInt64).toInt32).toInt8.toInt32) N hz67) wm_978 cv_X2_take [1, 2] [0] [0, 1, 2] (⟨rfl, rfl, rfl, by decide, rfl⟩ : Ix [1, 2] [0] [0, 1, 2] 3) rfl (hN_of 1 3 (by decide +kernel) rfl (by decide +kernel) rfl) rfl rfl rfl rfl ⟨rfl, rfl, by decide, by decide⟩ hl.1 rfl (Nat.le_of_ble_eq_true rfl) ⟨Nat.zero_le _, Nat.zero_le _⟩ dX6_type_67 (fun H locs hP hD hS => ?_)
      refine lv_iinc (v := y4 + 1) (lv' := [(4, .int (y4 + 1)), (0, .ref a0), (1, .long y1), (3, .int y3)]) hx hb dX6_type_70 hl (k := 3) rfl rfl (by decide) rfl (fun ls hl => ?_)
      refine lv_goto (tgt := 48) hx hb dX6_type_73 (by decide) ?_
      exact ih z67.1 z67.2 y1 y3 (y4 + 1) _ _ _ h hP hD hS (lv_sub hl [1, 2, 3, 0] rfl)
end G_X6_type
set_option maxHeartbeats 4000000 in
set_option maxRecDepth 100000 in
theorem c_X6_type (l : Launch) (D : va_G) (cI cJ cB : ClassId) (a0 a_freer a_scribe a_formula a_copy a_above a_below a_spans a_found a_reader a_reader_bench a_reader_sum a_reader_waiting a_reader_bytes : Nat) (sz : Nat) (loose : Int32) (reader_length : Int32) (reader_waits : Int32) (reader_at : Int32) (reader_opened : Int32) (reader_parens : Int32) (reader_great : Int32) (reader_bytes : Nat → Int32) (x1 : Int64) (x2 : Int32) (N : Nat) {z : Int32 × (Int32) × (Nat → Int32)} (h : f_X6_type N reader_length reader_bytes x1 x2 = some z) : Mg l yX6_type cX6_type 5 (some .int) rm_X6_type D (ty0 cI cJ cB) [.ref a0, .long x1, .int x2] sz (ws_X6_type cI cJ cB a0 a_freer a_scribe a_formula a_copy a_above a_below a_spans a_found a_reader a_reader_bench a_reader_sum a_reader_waiting a_reader_bytes loose reader_length reader_waits reader_at reader_opened reader_parens reader_great reader_bytes) (some (.int z.1)) (ws_X6_type cI cJ cB a0 a_freer a_scribe a_formula a_copy a_above a_below a_spans a_found a_reader a_reader_bench a_reader_sum a_reader_waiting a_reader_bytes loose z.2.1 reader_waits reader_at reader_opened reader_parens reader_great z.2.2) := by
  refine Mg.of (by decide) (Nat.le_of_ble_eq_true rfl) ?_
  intro p e s m below meth c CX hK hsz hP hD ls hl
  have CX : Cx p m c cX6_type 5 s ([.ref a0, .long x1, .int x2] : List Value).toArray (Cond.code yX6_type cX6_type 5 (some .int)) RX6 meth (some .int) := CX
  obtain ⟨F, hr, hlk, hNw⟩ := id CX
  have hx := F.1
  have hb := F.2.1
  have hown := F.2.2.2.1
  have hl : lv_has ls 5 [(0, .ref a0), (1, .long x1), (3, .int x2)] := hl
  have hS : va_S (va_A (ws_X6_type cI cJ cB a0 a_freer a_scribe a_formula a_copy a_above a_below a_spans a_found a_reader a_reader_bench a_reader_sum a_reader_waiting a_reader_bytes loose reader_length reader_waits reader_at reader_opened reader_parens reader_great reader_bytes) sz) s.heap s.heap [] := va_S.rf
  have hA : ∀ q, s.heap.size ≤ q → va_A (ws_X6_type cI cJ cB a0 a_freer a_scribe a_formula a_copy a_above a_below a_spans a_found a_reader a_reader_bench a_reader_sum a_reader_waiting a_reader_bytes loose reader_length reader_waits reader_at reader_opened reader_parens reader_great reader_bytes) sz q := fun q hq => Or.inr (hsz ▸ hq)
  unfold f_X6_type at h
  refine lv_iload_n hx hb dX6_type_0 rfl (lv_at hl 2 rfl) ?_
  refine lv_if_lt (tgt := 10) hx hb dX6_type_1 (by decide) (fun c1 => ?_) (fun c1 => ?_)
  · have h := o_t c1 h
    cases h
  · have h := o_f c1 h
    refine lv_iload_n hx hb dX6_type_4 rfl (lv_at hl 2 rfl) ?_
    refine lv_bipush (v := 8) hx hb dX6_type_5 (by decide) ?_
    refine lv_icmp_le (tgt := 20) hx hb dX6_type_7 (by decide) (fun c7 => ?_) (fun c7 => ?_)
    · have h := o_t c7 h
      refine lv_aload_n hx hb dX6_type_20 rfl (lv_at hl 0 rfl) ?_
      refine r_get F hK hP 0 0 rfl inW_X6 wm_583 rfl (by decide) rfl dX6_type_21 ?_
      refine r_getN F hNw hK hP 1 4 rfl inW_X2 nf_X6_71 rfl (by decide) rfl dX6_type_24 ?_
      refine lv_iload_n hx hb dX6_type_27 rfl (lv_at hl 2 rfl) ?_
      refine lv_iadd hx hb dX6_type_28 ?_
      refine lv_sipush (v := 240) hx hb dX6_type_29 (by decide) ?_
      refine lv_icmp_le (tgt := 45) hx hb dX6_type_32 (by decide) (fun c32 => ?_) (fun c32 => ?_)
      · have h := o_t c32 h
        refine lv_iconst (v := 0) hx hb dX6_type_45 (by decide) ?_
        refine lv_istore (lv' := [(4, .int 0), (0, .ref a0), (1, .long x1), (3, .int x2)]) hx hb dX6_type_46 hl (by decide) rfl (fun ls hl => ?_)
        exact w_X6_type_48 CX hK hsz N reader_length reader_bytes x1 x2 0 _ _ _ h hP hD hS (lv_sub hl [1, 2, 3, 0] rfl)
      · have h := o_f c32 h
        cases h
    · have h := o_f c7 h
      cases h
section G_X6_clear
abbrev ws_X6_clear (cI cJ cB : ClassId) (a0 a_freer a_scribe a_formula a_copy a_above a_below a_spans a_found a_reader a_reader_bytes a_reader_bench a_reader_sum a_reader_waiting : Nat) (loose : Int32) (reader_length : Int32) (reader_waits : Int32) (reader_at : Int32) (reader_opened : Int32) (reader_parens : Int32) (reader_great : Int32) : va_W := [(a0, .inr (8, [.ref a_reader, .ref a_freer, .ref a_scribe, .ref a_formula, .ref a_copy, .ref a_above, .ref a_below, .ref a_spans, .ref a_found, .int loose])), (a_reader, .inr (4, [.ref a_reader_bytes, .ref a_reader_bench, .ref a_reader_sum, .ref a_reader_waiting, .int reader_length, .int reader_waits, .int reader_at, .int reader_opened, .int reader_parens, .int reader_great]))]
abbrev rm_X6_clear : Room := { frames := 0, cells := 0, slots := 0, locals := 0 }
def f_X6_clear (N : Nat) (reader_length : Int32) : Option (Int32 × (Int32)) := some (reader_length, 0)
variable {p : Program} {l : Launch} {e : Env} {s : State} {m : MethodId} {below : List Frame} {meth : Method} {c : Code} {args : Array Value} {x0 : Cond} {D : va_G} {cI cJ cB : ClassId} {sz N : Nat} {ws0 : va_W} {a0 a_freer a_scribe a_formula a_copy a_above a_below a_spans a_found a_reader a_reader_bytes a_reader_bench a_reader_sum a_reader_waiting : Nat} {loose : Int32} {reader_waits : Int32} {reader_at : Int32} {reader_opened : Int32} {reader_parens : Int32} {reader_great : Int32} {z : Int32 × (Int32)}
end G_X6_clear
set_option maxHeartbeats 4000000 in
set_option maxRecDepth 100000 in
theorem c_X6_clear (l : Launch) (D : va_G) (cI cJ cB : ClassId) (a0 a_freer a_scribe a_formula a_copy a_above a_below a_spans a_found a_reader a_reader_bytes a_reader_bench a_reader_sum a_reader_waiting : Nat) (sz : Nat) (loose : Int32) (reader_length : Int32) (reader_waits : Int32) (reader_at : Int32) (reader_opened : Int32) (reader_parens : Int32) (reader_great : Int32) (N : Nat) {z : Int32 × (Int32)} (h : f_X6_clear N reader_length = some z) : Mg l yX6_clear cX6_clear 2 (some .int) rm_X6_clear D (ty0 cI cJ cB) [.ref a0] sz (ws_X6_clear cI cJ cB a0 a_freer a_scribe a_formula a_copy a_above a_below a_spans a_found a_reader a_reader_bytes a_reader_bench a_reader_sum a_reader_waiting loose reader_length reader_waits reader_at reader_opened reader_parens reader_great) (some (.int z.1)) (ws_X6_clear cI cJ cB a0 a_freer a_scribe a_formula a_copy a_above a_below a_spans a_found a_reader a_reader_bytes a_reader_bench a_reader_sum a_reader_waiting loose z.2 reader_waits reader_at reader_opened reader_parens reader_great) := by
  refine Mg.of (by decide) (Nat.le_of_ble_eq_true rfl) ?_
  intro p e s m below meth c CX hK hsz hP hD ls hl
  have CX : Cx p m c cX6_clear 2 s ([.ref a0] : List Value).toArray (Cond.code yX6_clear cX6_clear 2 (some .int)) RX6 meth (some .int) := CX
  obtain ⟨F, hr, hlk, hNw⟩ := id CX
  have hx := F.1
  have hb := F.2.1
  have hown := F.2.2.2.1
  have hl : lv_has ls 2 [(0, .ref a0)] := hl
  have hS : va_S (va_A (ws_X6_clear cI cJ cB a0 a_freer a_scribe a_formula a_copy a_above a_below a_spans a_found a_reader a_reader_bytes a_reader_bench a_reader_sum a_reader_waiting loose reader_length reader_waits reader_at reader_opened reader_parens reader_great) sz) s.heap s.heap [] := va_S.rf
  have hA : ∀ q, s.heap.size ≤ q → va_A (ws_X6_clear cI cJ cB a0 a_freer a_scribe a_formula a_copy a_above a_below a_spans a_found a_reader a_reader_bytes a_reader_bench a_reader_sum a_reader_waiting loose reader_length reader_waits reader_at reader_opened reader_parens reader_great) sz q := fun q hq => Or.inr (hsz ▸ hq)
  unfold f_X6_clear at h
  refine lv_aload_n hx hb dX6_clear_0 rfl (lv_at hl 0 rfl) ?_
  refine r_get F hK hP 0 0 rfl inW_X6 wm_583 rfl (by decide) rfl dX6_clear_1 ?_
  refine r_getN F hNw hK hP 1 4 rfl inW_X2 nf_X6_71 rfl (by decide) rfl dX6_clear_4 ?_
  refine lv_istore_n (lv' := [(1, .int reader_length), (0, .ref a0)]) hx hb dX6_clear_7 rfl hl (by decide) rfl (fun ls hl => ?_)
  refine lv_aload_n hx hb dX6_clear_8 rfl (lv_at hl 1 rfl) ?_
  refine r_get F hK hP 0 0 rfl inW_X6 wm_583 rfl (by decide) rfl dX6_clear_9 ?_
  refine lv_iconst (v := 0) hx hb dX6_clear_12 (by decide) ?_
  refine r_putN (wn := (ws_X6_clear cI cJ cB a0 a_freer a_scribe a_formula a_copy a_above a_below a_spans a_found a_reader a_reader_bytes a_reader_bench a_reader_sum a_reader_waiting loose 0 reader_waits reader_at reader_opened reader_parens reader_great)) F hNw hK hP hD hS 1 4 rfl inW_X2 nf_X6_71 tyX2_ok nmX2 rfl rfl (by decide) rfl rfl (Nat.le_of_ble_eq_true rfl) rfl dX6_clear_13 (fun H locs hP hD hS => ?_)
  refine lv_iload_n hx hb dX6_clear_16 rfl (lv_at hl 0 rfl) ?_
  obtain rfl := Option.some.inj h
  exact r_ret (v := reader_length) F hr hlk rfl dX6_clear_17 hsz hP hD hS
section G_X6_free
abbrev ws_X6_free (cI cJ cB : ClassId) (a0 a_reader a_freer a_scribe a_formula a_copy a_above a_below a_spans a_found : Nat) (loose : Int32) : va_W := [(a0, .inr (8, [.ref a_reader, .ref a_freer, .ref a_scribe, .ref a_formula, .ref a_copy, .ref a_above, .ref a_below, .ref a_spans, .ref a_found, .int loose]))]
abbrev rm_X6_free : Room := { frames := 0, cells := 0, slots := 0, locals := 0 }
def f_X6_free (N : Nat) (loose : Int32) : Option (Int32) := some loose
variable {p : Program} {l : Launch} {e : Env} {s : State} {m : MethodId} {below : List Frame} {meth : Method} {c : Code} {args : Array Value} {x0 : Cond} {D : va_G} {cI cJ cB : ClassId} {sz N : Nat} {ws0 : va_W} {a0 a_reader a_freer a_scribe a_formula a_copy a_above a_below a_spans a_found : Nat} {loose : Int32} {z : Int32}
end G_X6_free
set_option maxHeartbeats 4000000 in
set_option maxRecDepth 100000 in
theorem c_X6_free (l : Launch) (D : va_G) (cI cJ cB : ClassId) (a0 a_reader a_freer a_scribe a_formula a_copy a_above a_below a_spans a_found : Nat) (sz : Nat) (loose : Int32) (N : Nat) {z : Int32} (h : f_X6_free N loose = some z) : Mg l yX6_free cX6_free 1 (some .int) rm_X6_free D (ty0 cI cJ cB) [.ref a0] sz (ws_X6_free cI cJ cB a0 a_reader a_freer a_scribe a_formula a_copy a_above a_below a_spans a_found loose) (some (.int z)) (ws_X6_free cI cJ cB a0 a_reader a_freer a_scribe a_formula a_copy a_above a_below a_spans a_found loose) := by
  refine Mg.of (by decide) (Nat.le_of_ble_eq_true rfl) ?_
  intro p e s m below meth c CX hK hsz hP hD ls hl
  have CX : Cx p m c cX6_free 1 s ([.ref a0] : List Value).toArray (Cond.code yX6_free cX6_free 1 (some .int)) RX6 meth (some .int) := CX
  obtain ⟨F, hr, hlk, hNw⟩ := id CX
  have hx := F.1
  have hb := F.2.1
  have hown := F.2.2.2.1
  have hl : lv_has ls 1 [(0, .ref a0)] := hl
  have hS : va_S (va_A (ws_X6_free cI cJ cB a0 a_reader a_freer a_scribe a_formula a_copy a_above a_below a_spans a_found loose) sz) s.heap s.heap [] := va_S.rf
  have hA : ∀ q, s.heap.size ≤ q → va_A (ws_X6_free cI cJ cB a0 a_reader a_freer a_scribe a_formula a_copy a_above a_below a_spans a_found loose) sz q := fun q hq => Or.inr (hsz ▸ hq)
  unfold f_X6_free at h
  refine lv_aload_n hx hb dX6_free_0 rfl (lv_at hl 0 rfl) ?_
  refine r_get F hK hP 0 9 rfl inW_X6 wm_592 rfl (by decide) rfl dX6_free_1 ?_
  obtain rfl := Option.some.inj h
  exact r_ret (v := loose) F hr hlk rfl dX6_free_4 hsz hP hD hS
section G_X6_value
abbrev ws_X6_value (cI cJ cB : ClassId) (a0 a_reader a_freer a_scribe a_formula a_copy a_spans a_found a_above a_below : Nat) (loose : Int32) (above : Nat → Int32) (below_ : Nat → Int32) : va_W := [(a0, .inr (8, [.ref a_reader, .ref a_freer, .ref a_scribe, .ref a_formula, .ref a_copy, .ref a_above, .ref a_below, .ref a_spans, .ref a_found, .int loose])), (a_above, .inl (cI, 8, .inl above)), (a_below, .inl (cI, 8, .inl below_))]
abbrev rm_X6_value : Room := { frames := 0, cells := 0, slots := 0, locals := 0 }
def f_X6_value (N : Nat) (above : Nat → Int32) (below_ : Nat → Int32) (x1 : Int32) (x2 : Int32) (x3 : Int32) : Option ((Nat → Int32) × (Nat → Int32)) := ifb (x1 < 0) (none) (ifb (x1 < 8) (ifb (x2 < (-99)) (none) (ifb (x2 ≤ 99) (ifb (x3 < 1) (none) (ifb (x3 ≤ 9) (ix x1 8 (ix x1 8 (some (upd above x1.toNatClampNeg x2, upd below_ x1.toNatClampNeg x3)))) (none))) (none))) (none))
variable {p : Program} {l : Launch} {e : Env} {s : State} {m : MethodId} {below : List Frame} {meth : Method} {c : Code} {args : Array Value} {x0 : Cond} {D : va_G} {cI cJ cB : ClassId} {sz N : Nat} {ws0 : va_W} {a0 a_reader a_freer a_scribe a_formula a_copy a_spans a_found a_above a_below : Nat} {loose : Int32} {z : (Nat → Int32) × (Nat → Int32)}
end G_X6_value
set_option maxHeartbeats 4000000 in
set_option maxRecDepth 100000 in
theorem c_X6_value (l : Launch) (D : va_G) (cI cJ cB : ClassId) (a0 a_reader a_freer a_scribe a_formula a_copy a_spans a_found a_above a_below : Nat) (sz : Nat) (loose : Int32) (above : Nat → Int32) (below_ : Nat → Int32) (x1 : Int32) (x2 : Int32) (x3 : Int32) (N : Nat) {z : (Nat → Int32) × (Nat → Int32)} (h : f_X6_value N above below_ x1 x2 x3 = some z) : Mg l yX6_value cX6_value 4 none rm_X6_value D (ty0 cI cJ cB) [.ref a0, .int x1, .int x2, .int x3] sz (ws_X6_value cI cJ cB a0 a_reader a_freer a_scribe a_formula a_copy a_spans a_found a_above a_below loose above below_) none (ws_X6_value cI cJ cB a0 a_reader a_freer a_scribe a_formula a_copy a_spans a_found a_above a_below loose z.1 z.2) := by
  refine Mg.of (by decide) (Nat.le_of_ble_eq_true rfl) ?_
  intro p e s m below meth c CX hK hsz hP hD ls hl
  have CX : Cx p m c cX6_value 4 s ([.ref a0, .int x1, .int x2, .int x3] : List Value).toArray (Cond.code yX6_value cX6_value 4 none) RX6 meth none := CX
  obtain ⟨F, hr, hlk, hNw⟩ := id CX
  have hx := F.1
  have hb := F.2.1
  have hown := F.2.2.2.1
  have hl : lv_has ls 4 [(0, .ref a0), (1, .int x1), (2, .int x2), (3, .int x3)] := hl
  have hS : va_S (va_A (ws_X6_value cI cJ cB a0 a_reader a_freer a_scribe a_formula a_copy a_spans a_found a_above a_below loose above below_) sz) s.heap s.heap [] := va_S.rf
  have hA : ∀ q, s.heap.size ≤ q → va_A (ws_X6_value cI cJ cB a0 a_reader a_freer a_scribe a_formula a_copy a_spans a_found a_above a_below loose above below_) sz q := fun q hq => Or.inr (hsz ▸ hq)
  unfold f_X6_value at h
  refine lv_iload_n hx hb dX6_value_0 rfl (lv_at hl 1 rfl) ?_
  refine lv_if_lt (tgt := 10) hx hb dX6_value_1 (by decide) (fun c1 => ?_) (fun c1 => ?_)
  · have h := o_t c1 h
    cases h
  · have h := o_f c1 h
    refine lv_iload_n hx hb dX6_value_4 rfl (lv_at hl 1 rfl) ?_
    refine lv_bipush (v := 8) hx hb dX6_value_5 (by decide) ?_
    refine lv_icmp_lt (tgt := 20) hx hb dX6_value_7 (by decide) (fun c7 => ?_) (fun c7 => ?_)
    · have h := o_t c7 h
      refine lv_iload_n hx hb dX6_value_20 rfl (lv_at hl 2 rfl) ?_
      refine lv_bipush (v := (-99)) hx hb dX6_value_21 (by decide) ?_
      refine lv_icmp_lt (tgt := 32) hx hb dX6_value_23 (by decide) (fun c23 => ?_) (fun c23 => ?_)
      · have h := o_t c23 h
        cases h
      · have h := o_f c23 h
        refine lv_iload_n hx hb dX6_value_26 rfl (lv_at hl 2 rfl) ?_
        refine lv_bipush (v := 99) hx hb dX6_value_27 (by decide) ?_
        refine lv_icmp_le (tgt := 42) hx hb dX6_value_29 (by decide) (fun c29 => ?_) (fun c29 => ?_)
        · have h := o_t c29 h
          refine lv_iload_n hx hb dX6_value_42 rfl (lv_at hl 3 rfl) ?_
          refine lv_iconst (v := 1) hx hb dX6_value_43 (by decide) ?_
          refine lv_icmp_lt (tgt := 53) hx hb dX6_value_44 (by decide) (fun c44 => ?_) (fun c44 => ?_)
          · have h := o_t c44 h
            cases h
          · have h := o_f c44 h
            refine lv_iload_n hx hb dX6_value_47 rfl (lv_at hl 3 rfl) ?_
            refine lv_bipush (v := 9) hx hb dX6_value_48 (by decide) ?_
            refine lv_icmp_le (tgt := 63) hx hb dX6_value_50 (by decide) (fun c50 => ?_) (fun c50 => ?_)
            · have h := o_t c50 h
              refine lv_aload_n hx hb dX6_value_63 rfl (lv_at hl 0 rfl) ?_
              refine r_get F hK hP 0 5 rfl inW_X6 wm_588 rfl (by decide) rfl dX6_value_64 ?_
              refine lv_iload_n hx hb dX6_value_67 rfl (lv_at hl 1 rfl) ?_
              refine lv_iload_n hx hb dX6_value_68 rfl (lv_at hl 2 rfl) ?_
              obtain ⟨hi69, h⟩ := o_ix h
              refine r_iast (wn := (ws_X6_value cI cJ cB a0 a_reader a_freer a_scribe a_formula a_copy a_spans a_found a_above a_below loose (upd above x1.toNatClampNeg x2) below_)) F hK hP hD hS 1 0 hi69 rfl rfl rfl dX6_value_69 (fun H locs hP hD hS => ?_)
              refine lv_aload_n hx hb dX6_value_70 rfl (lv_at hl 0 rfl) ?_
              refine r_get F hK hP 0 6 rfl inW_X6 wm_589 rfl (by decide) rfl dX6_value_71 ?_
              refine lv_iload_n hx hb dX6_value_74 rfl (lv_at hl 1 rfl) ?_
              refine lv_iload_n hx hb dX6_value_75 rfl (lv_at hl 3 rfl) ?_
              obtain ⟨hi76, h⟩ := o_ix h
              refine r_iast (wn := (ws_X6_value cI cJ cB a0 a_reader a_freer a_scribe a_formula a_copy a_spans a_found a_above a_below loose (upd above x1.toNatClampNeg x2) (upd below_ x1.toNatClampNeg x3))) F hK hP hD hS 2 0 hi76 rfl rfl rfl dX6_value_76 (fun H locs hP hD hS => ?_)
              obtain rfl := Option.some.inj h
              exact r_vret F hr hlk dX6_value_77 hsz hP hD hS
            · have h := o_f c50 h
              cases h
        · have h := o_f c29 h
          cases h
    · have h := o_f c7 h
      cases h
section G_X6_decide
abbrev ws_X6_decide (cI cJ cB : ClassId) (a0 a_reader a_scribe a_spans a_found a_freer a_freer_bench a_freer_bench_tree a_freer_bench_tree_cells a_freer_bench_starts a_freer_bench_looses a_freer_body a_freer_body_cells a_freer_sum a_freer_sum_numbers a_freer_rowsOfPoints a_freer_spans a_freer_bound a_formula a_formula_cells a_copy a_copy_cells a_above a_below : Nat) (loose : Int32) (freer_points : Int32) (freer_pointsPut : Int32) (freer_takenOut : Int32) (freer_bench_parts : Int32) (freer_bench_tree_rows : Int32) (freer_bench_tree_cells : Nat → Int32) (freer_bench_tree_cells_n : Nat) (freer_bench_starts : Nat → Int32) (freer_bench_looses : Nat → Int32) (freer_body_rows : Int32) (freer_body_cells : Nat → Int32) (freer_body_cells_n : Nat) (freer_sum_numbers : Nat → Int64) (freer_rowsOfPoints : Nat → Int32) (freer_spans : Nat → Int32) (freer_bound : Nat → Int32) (formula_rows : Int32) (formula_cells : Nat → Int32) (formula_cells_n : Nat) (copy_rows : Int32) (copy_cells : Nat → Int32) (copy_cells_n : Nat) (above : Nat → Int32) (below_ : Nat → Int32) : va_W := [(a0, .inr (8, [.ref a_reader, .ref a_freer, .ref a_scribe, .ref a_formula, .ref a_copy, .ref a_above, .ref a_below, .ref a_spans, .ref a_found, .int loose])), (a_freer, .inr (3, [.ref a_freer_bench, .ref a_freer_body, .ref a_freer_sum, .ref a_freer_rowsOfPoints, .ref a_freer_spans, .ref a_freer_bound, .int freer_points, .int freer_pointsPut, .int freer_takenOut])), (a_freer_bench, .inr (2, [.ref a_freer_bench_tree, .ref a_freer_bench_starts, .ref a_freer_bench_looses, .int freer_bench_parts])), (a_freer_bench_tree, .inr (7, [.ref a_freer_bench_tree_cells, .int freer_bench_tree_rows])), (a_freer_bench_tree_cells, .inl (cI, freer_bench_tree_cells_n, .inl freer_bench_tree_cells)), (a_freer_bench_starts, .inl (cI, 402, .inl freer_bench_starts)), (a_freer_bench_looses, .inl (cI, 402, .inl freer_bench_looses)), (a_freer_body, .inr (7, [.ref a_freer_body_cells, .int freer_body_rows])), (a_freer_body_cells, .inl (cI, freer_body_cells_n, .inl freer_body_cells)), (a_freer_sum, .inr (6, [.ref a_freer_sum_numbers])), (a_freer_sum_numbers, .inl (cJ, 9, .inr (.inl freer_sum_numbers))), (a_freer_rowsOfPoints, .inl (cI, 4411, .inl freer_rowsOfPoints)), (a_freer_spans, .inl (cI, 400, .inl freer_spans)), (a_freer_bound, .inl (cI, 400, .inl freer_bound)), (a_formula, .inr (7, [.ref a_formula_cells, .int formula_rows])), (a_formula_cells, .inl (cI, formula_cells_n, .inl formula_cells)), (a_copy, .inr (7, [.ref a_copy_cells, .int copy_rows])), (a_copy_cells, .inl (cI, copy_cells_n, .inl copy_cells)), (a_above, .inl (cI, 8, .inl above)), (a_below, .inl (cI, 8, .inl below_))]
abbrev rm_X6_decide (k : Nat) : Room := { frames := 8, cells := k, slots := 100000 * k, locals := 196 }
def f_X6_decide_113 (K26 : Int32 → Int32 → Int32 → Int32 → Int32 → Int32 → (Nat → Int32) → Nat → (Nat → Int32) → (Nat → Int32) → Int32 → (Nat → Int32) → Nat → (Nat → Int64) → (Nat → Int32) → (Nat → Int32) → (Nat → Int32) → Int32 → (Nat → Int32) → Nat → Int32 → (Nat → Int32) → Nat → (Nat → Int32) → (Nat → Int32) → Int32 → Int32 → Option (Int32 × (Int32) × (Int32) × (Int32) × (Int32) × (Int32) × (Nat → Int32) × (Nat) × (Nat → Int32) × (Nat → Int32) × (Int32) × (Nat → Int32) × (Nat → Int64) × (Nat → Int32) × (Nat → Int32) × (Nat → Int32) × (Int32) × (Nat → Int32))) (N : Nat) (loose : Int32) (freer_points : Int32) (freer_pointsPut : Int32) (freer_takenOut : Int32) (freer_bench_parts : Int32) (freer_bench_tree_rows : Int32) (freer_bench_tree_cells : Nat → Int32) (freer_bench_tree_cells_n : Nat) (freer_bench_starts : Nat → Int32) (freer_bench_looses : Nat → Int32) (freer_body_rows : Int32) (freer_body_cells : Nat → Int32) (freer_body_cells_n : Nat) (freer_sum_numbers : Nat → Int64) (freer_rowsOfPoints : Nat → Int32) (freer_spans : Nat → Int32) (freer_bound : Nat → Int32) (formula_rows : Int32) (formula_cells : Nat → Int32) (formula_cells_n : Nat) (copy_rows : Int32) (copy_cells : Nat → Int32) (copy_cells_n : Nat) (above : Nat → Int32) (below_ : Nat → Int32) (y1 : Int32) (y2 : Int32) : Option (Int32 × (Int32) × (Int32) × (Int32) × (Int32) × (Int32) × (Nat → Int32) × (Nat) × (Nat → Int32) × (Nat → Int32) × (Int32) × (Nat → Int32) × (Nat → Int64) × (Nat → Int32) × (Nat → Int32) × (Nat → Int32) × (Int32) × (Nat → Int32)) := K26 loose freer_points freer_pointsPut freer_takenOut freer_bench_parts freer_bench_tree_rows freer_bench_tree_cells freer_bench_tree_cells_n freer_bench_starts freer_bench_looses freer_body_rows freer_body_cells freer_body_cells_n freer_sum_numbers freer_rowsOfPoints freer_spans freer_bound formula_rows formula_cells formula_cells_n copy_rows copy_cells copy_cells_n above below_ y1 (y2 + 1)
def f_X6_decide_154 (N : Nat) (loose : Int32) (freer_points : Int32) (freer_pointsPut : Int32) (freer_takenOut : Int32) (freer_bench_parts : Int32) (freer_bench_tree_rows : Int32) (freer_bench_tree_cells : Nat → Int32) (freer_bench_tree_cells_n : Nat) (freer_bench_starts : Nat → Int32) (freer_bench_looses : Nat → Int32) (freer_body_rows : Int32) (freer_body_cells : Nat → Int32) (freer_body_cells_n : Nat) (freer_sum_numbers : Nat → Int64) (freer_rowsOfPoints : Nat → Int32) (freer_spans : Nat → Int32) (freer_bound : Nat → Int32) (formula_rows : Int32) (formula_cells : Nat → Int32) (formula_cells_n : Nat) (copy_rows : Int32) (copy_cells : Nat → Int32) (copy_cells_n : Nat) (above : Nat → Int32) (below_ : Nat → Int32) (s0 : Int32) : Option (Int32 × (Int32) × (Int32) × (Int32) × (Int32) × (Int32) × (Nat → Int32) × (Nat) × (Nat → Int32) × (Nat → Int32) × (Int32) × (Nat → Int32) × (Nat → Int64) × (Nat → Int32) × (Nat → Int32) × (Nat → Int32) × (Int32) × (Nat → Int32)) := some (s0, freer_points, freer_pointsPut, freer_takenOut, freer_bench_parts, freer_bench_tree_rows, freer_bench_tree_cells, freer_bench_tree_cells_n, freer_bench_starts, freer_bench_looses, freer_body_rows, freer_body_cells, freer_sum_numbers, freer_rowsOfPoints, freer_spans, freer_bound, copy_rows, copy_cells)
def f_X6_decide_130 (N : Nat) (loose : Int32) (freer_points : Int32) (freer_pointsPut : Int32) (freer_takenOut : Int32) (freer_bench_parts : Int32) (freer_bench_tree_rows : Int32) (freer_bench_tree_cells : Nat → Int32) (freer_bench_tree_cells_n : Nat) (freer_bench_starts : Nat → Int32) (freer_bench_looses : Nat → Int32) (freer_body_rows : Int32) (freer_body_cells : Nat → Int32) (freer_body_cells_n : Nat) (freer_sum_numbers : Nat → Int64) (freer_rowsOfPoints : Nat → Int32) (freer_spans : Nat → Int32) (freer_bound : Nat → Int32) (formula_rows : Int32) (formula_cells : Nat → Int32) (formula_cells_n : Nat) (copy_rows : Int32) (copy_cells : Nat → Int32) (copy_cells_n : Nat) (above : Nat → Int32) (below_ : Nat → Int32) (s0 : Int32) : Option (Int32 × (Int32) × (Int32) × (Int32) × (Int32) × (Int32) × (Nat → Int32) × (Nat) × (Nat → Int32) × (Nat → Int32) × (Int32) × (Nat → Int32) × (Nat → Int64) × (Nat → Int32) × (Nat → Int32) × (Nat → Int32) × (Int32) × (Nat → Int32)) := ifb (s0 = 0) (some ((-2), freer_points, freer_pointsPut, freer_takenOut, freer_bench_parts, freer_bench_tree_rows, freer_bench_tree_cells, freer_bench_tree_cells_n, freer_bench_starts, freer_bench_looses, freer_body_rows, freer_body_cells, freer_sum_numbers, freer_rowsOfPoints, freer_spans, freer_bound, copy_rows, copy_cells)) ((f_X0_lastKind N freer_bench_tree_rows freer_bench_tree_cells freer_bench_tree_cells_n).bind (fun z143 => ifb (z143 = 0) (f_X6_decide_154 N loose freer_points freer_pointsPut freer_takenOut freer_bench_parts freer_bench_tree_rows freer_bench_tree_cells freer_bench_tree_cells_n freer_bench_starts freer_bench_looses freer_body_rows freer_body_cells freer_body_cells_n freer_sum_numbers freer_rowsOfPoints freer_spans freer_bound formula_rows formula_cells formula_cells_n copy_rows copy_cells copy_cells_n above below_ 1) (f_X6_decide_154 N loose freer_points freer_pointsPut freer_takenOut freer_bench_parts freer_bench_tree_rows freer_bench_tree_cells freer_bench_tree_cells_n freer_bench_starts freer_bench_looses freer_body_rows freer_body_cells freer_body_cells_n freer_sum_numbers freer_rowsOfPoints freer_spans freer_bound formula_rows formula_cells formula_cells_n copy_rows copy_cells copy_cells_n above below_ 0)))
def f_X6_decide_26 (N : Nat) : Nat → Int32 → Int32 → Int32 → Int32 → Int32 → Int32 → (Nat → Int32) → Nat → (Nat → Int32) → (Nat → Int32) → Int32 → (Nat → Int32) → Nat → (Nat → Int64) → (Nat → Int32) → (Nat → Int32) → (Nat → Int32) → Int32 → (Nat → Int32) → Nat → Int32 → (Nat → Int32) → Nat → (Nat → Int32) → (Nat → Int32) → Int32 → Int32 → Option (Int32 × (Int32) × (Int32) × (Int32) × (Int32) × (Int32) × (Nat → Int32) × (Nat) × (Nat → Int32) × (Nat → Int32) × (Int32) × (Nat → Int32) × (Nat → Int64) × (Nat → Int32) × (Nat → Int32) × (Nat → Int32) × (Int32) × (Nat → Int32))
  | 0 => fun _ _ _ _ _ _ _ _ _ _ _ _ _ _ _ _ _ _ _ _ _ _ _ _ _ _ _ => none
  | n + 1 => fun loose freer_points freer_pointsPut freer_takenOut freer_bench_parts freer_bench_tree_rows freer_bench_tree_cells freer_bench_tree_cells_n freer_bench_starts freer_bench_looses freer_body_rows freer_body_cells freer_body_cells_n freer_sum_numbers freer_rowsOfPoints freer_spans freer_bound formula_rows formula_cells formula_cells_n copy_rows copy_cells copy_cells_n above below_ y1 y2 => ifb (8 ≤ y2) ((f_X1_run N freer_points freer_pointsPut freer_takenOut freer_bench_parts freer_bench_tree_rows freer_bench_tree_cells freer_bench_tree_cells_n freer_bench_starts freer_bench_looses freer_body_rows freer_body_cells freer_body_cells_n freer_sum_numbers freer_rowsOfPoints copy_rows copy_cells copy_cells_n).bind (fun z127 => f_X6_decide_130 N loose z127.2.1 z127.2.2.1 z127.2.2.2.1 z127.2.2.2.2.1 z127.2.2.2.2.2.1 z127.2.2.2.2.2.2.1 z127.2.2.2.2.2.2.2.1 z127.2.2.2.2.2.2.2.2.1 z127.2.2.2.2.2.2.2.2.2.1 z127.2.2.2.2.2.2.2.2.2.2.1 z127.2.2.2.2.2.2.2.2.2.2.2.1 freer_body_cells_n z127.2.2.2.2.2.2.2.2.2.2.2.2.1 z127.2.2.2.2.2.2.2.2.2.2.2.2.2 freer_spans freer_bound formula_rows formula_cells formula_cells_n copy_rows copy_cells copy_cells_n above below_ z127.1)) (ifb (((y1 >>> (y2 &&& 31)) &&& 1) = 1) (ix y2 8 (ix y2 8 ((f_X1_putValue N freer_bench_parts freer_bench_tree_rows freer_bench_tree_cells freer_bench_tree_cells_n freer_bench_starts freer_bench_looses freer_sum_numbers freer_rowsOfPoints freer_spans freer_bound copy_rows copy_cells copy_cells_n y2 (above y2.toNatClampNeg) (below_ y2.toNatClampNeg)).bind (fun z62 => ifb (z62.1 = 0) (some ((-2), freer_points, freer_pointsPut, freer_takenOut, z62.2.1, z62.2.2.1, z62.2.2.2.1, freer_bench_tree_cells_n, z62.2.2.2.2.1, z62.2.2.2.2.2.1, freer_body_rows, freer_body_cells, z62.2.2.2.2.2.2.1, z62.2.2.2.2.2.2.2.1, z62.2.2.2.2.2.2.2.2.1, z62.2.2.2.2.2.2.2.2.2, copy_rows, copy_cells)) ((f_X0_lastLoose N z62.2.1 z62.2.2.2.2.2.1).bind (fun z78 => (f_X5_become N copy_rows copy_cells copy_cells_n z62.2.2.1 z62.2.2.2.1 freer_bench_tree_cells_n 0 z62.2.2.1).bind (fun z110 => f_X6_decide_113 (f_X6_decide_26 N n) N loose freer_points freer_pointsPut freer_takenOut z62.2.1 z62.2.2.1 z62.2.2.2.1 freer_bench_tree_cells_n z62.2.2.2.2.1 z62.2.2.2.2.2.1 freer_body_rows freer_body_cells freer_body_cells_n z62.2.2.2.2.2.2.1 z62.2.2.2.2.2.2.2.1 z62.2.2.2.2.2.2.2.2.1 z62.2.2.2.2.2.2.2.2.2 formula_rows formula_cells formula_cells_n z110.1 z110.2 copy_cells_n above below_ z78 y2))))))) (f_X6_decide_113 (f_X6_decide_26 N n) N loose freer_points freer_pointsPut freer_takenOut freer_bench_parts freer_bench_tree_rows freer_bench_tree_cells freer_bench_tree_cells_n freer_bench_starts freer_bench_looses freer_body_rows freer_body_cells freer_body_cells_n freer_sum_numbers freer_rowsOfPoints freer_spans freer_bound formula_rows formula_cells formula_cells_n copy_rows copy_cells copy_cells_n above below_ y1 y2))
def f_X6_decide (N : Nat) (loose : Int32) (freer_points : Int32) (freer_pointsPut : Int32) (freer_takenOut : Int32) (freer_bench_parts : Int32) (freer_bench_tree_rows : Int32) (freer_bench_tree_cells : Nat → Int32) (freer_bench_tree_cells_n : Nat) (freer_bench_starts : Nat → Int32) (freer_bench_looses : Nat → Int32) (freer_body_rows : Int32) (freer_body_cells : Nat → Int32) (freer_body_cells_n : Nat) (freer_sum_numbers : Nat → Int64) (freer_rowsOfPoints : Nat → Int32) (freer_spans : Nat → Int32) (freer_bound : Nat → Int32) (formula_rows : Int32) (formula_cells : Nat → Int32) (formula_cells_n : Nat) (copy_rows : Int32) (copy_cells : Nat → Int32) (copy_cells_n : Nat) (above : Nat → Int32) (below_ : Nat → Int32) : Option (Int32 × (Int32) × (Int32) × (Int32) × (Int32) × (Int32) × (Nat → Int32) × (Nat) × (Nat → Int32) × (Nat → Int32) × (Int32) × (Nat → Int32) × (Nat → Int64) × (Nat → Int32) × (Nat → Int32) × (Nat → Int32) × (Int32) × (Nat → Int32)) := (f_X5_become N copy_rows copy_cells copy_cells_n formula_rows formula_cells formula_cells_n 0 formula_rows).bind (fun z16 => f_X6_decide_26 N N loose freer_points freer_pointsPut freer_takenOut freer_bench_parts freer_bench_tree_rows freer_bench_tree_cells freer_bench_tree_cells_n freer_bench_starts freer_bench_looses freer_body_rows freer_body_cells freer_body_cells_n freer_sum_numbers freer_rowsOfPoints freer_spans freer_bound formula_rows formula_cells formula_cells_n z16.1 z16.2 copy_cells_n above below_ loose 0)
theorem m_X6_decide_113 {N : Nat} {K26 : Int32 → Int32 → Int32 → Int32 → Int32 → Int32 → (Nat → Int32) → Nat → (Nat → Int32) → (Nat → Int32) → Int32 → (Nat → Int32) → Nat → (Nat → Int64) → (Nat → Int32) → (Nat → Int32) → (Nat → Int32) → Int32 → (Nat → Int32) → Nat → Int32 → (Nat → Int32) → Nat → (Nat → Int32) → (Nat → Int32) → Int32 → Int32 → Option (Int32 × (Int32) × (Int32) × (Int32) × (Int32) × (Int32) × (Nat → Int32) × (Nat) × (Nat → Int32) × (Nat → Int32) × (Int32) × (Nat → Int32) × (Nat → Int64) × (Nat → Int32) × (Nat → Int32) × (Nat → Int32) × (Int32) × (Nat → Int32))} (hmK26 : ∀ (loose : Int32) (freer_points : Int32) (freer_pointsPut : Int32) (freer_takenOut : Int32) (freer_bench_parts : Int32) (freer_bench_tree_rows : Int32) (freer_bench_tree_cells : Nat → Int32) (freer_bench_tree_cells_n : Nat) (freer_bench_starts : Nat → Int32) (freer_bench_looses : Nat → Int32) (freer_body_rows : Int32) (freer_body_cells : Nat → Int32) (freer_body_cells_n : Nat) (freer_sum_numbers : Nat → Int64) (freer_rowsOfPoints : Nat → Int32) (freer_spans : Nat → Int32) (freer_bound : Nat → Int32) (formula_rows : Int32) (formula_cells : Nat → Int32) (formula_cells_n : Nat) (copy_rows : Int32) (copy_cells : Nat → Int32) (copy_cells_n : Nat) (above : Nat → Int32) (below_ : Nat → Int32) (y1 : Int32) (y2 : Int32), Mo freer_bench_tree_cells_n (fun z : Int32 × (Int32) × (Int32) × (Int32) × (Int32) × (Int32) × (Nat → Int32) × (Nat) × (Nat → Int32) × (Nat → Int32) × (Int32) × (Nat → Int32) × (Nat → Int64) × (Nat → Int32) × (Nat → Int32) × (Nat → Int32) × (Int32) × (Nat → Int32) => z.2.2.2.2.2.2.2.1) (K26 loose freer_points freer_pointsPut freer_takenOut freer_bench_parts freer_bench_tree_rows freer_bench_tree_cells freer_bench_tree_cells_n freer_bench_starts freer_bench_looses freer_body_rows freer_body_cells freer_body_cells_n freer_sum_numbers freer_rowsOfPoints freer_spans freer_bound formula_rows formula_cells formula_cells_n copy_rows copy_cells copy_cells_n above below_ y1 y2)) : ∀ (loose : Int32) (freer_points : Int32) (freer_pointsPut : Int32) (freer_takenOut : Int32) (freer_bench_parts : Int32) (freer_bench_tree_rows : Int32) (freer_bench_tree_cells : Nat → Int32) (freer_bench_tree_cells_n : Nat) (freer_bench_starts : Nat → Int32) (freer_bench_looses : Nat → Int32) (freer_body_rows : Int32) (freer_body_cells : Nat → Int32) (freer_body_cells_n : Nat) (freer_sum_numbers : Nat → Int64) (freer_rowsOfPoints : Nat → Int32) (freer_spans : Nat → Int32) (freer_bound : Nat → Int32) (formula_rows : Int32) (formula_cells : Nat → Int32) (formula_cells_n : Nat) (copy_rows : Int32) (copy_cells : Nat → Int32) (copy_cells_n : Nat) (above : Nat → Int32) (below_ : Nat → Int32) (y1 : Int32) (y2 : Int32), Mo freer_bench_tree_cells_n (fun z : Int32 × (Int32) × (Int32) × (Int32) × (Int32) × (Int32) × (Nat → Int32) × (Nat) × (Nat → Int32) × (Nat → Int32) × (Int32) × (Nat → Int32) × (Nat → Int64) × (Nat → Int32) × (Nat → Int32) × (Nat → Int32) × (Int32) × (Nat → Int32) => z.2.2.2.2.2.2.2.1) (f_X6_decide_113 K26 N loose freer_points freer_pointsPut freer_takenOut freer_bench_parts freer_bench_tree_rows freer_bench_tree_cells freer_bench_tree_cells_n freer_bench_starts freer_bench_looses freer_body_rows freer_body_cells freer_body_cells_n freer_sum_numbers freer_rowsOfPoints freer_spans freer_bound formula_rows formula_cells formula_cells_n copy_rows copy_cells copy_cells_n above below_ y1 y2) := by
  intro loose freer_points freer_pointsPut freer_takenOut freer_bench_parts freer_bench_tree_rows freer_bench_tree_cells freer_bench_tree_cells_n freer_bench_starts freer_bench_looses freer_body_rows freer_body_cells freer_body_cells_n freer_sum_numbers freer_rowsOfPoints freer_spans freer_bound formula_rows formula_cells formula_cells_n copy_rows copy_cells copy_cells_n above below_ y1 y2
  unfold f_X6_decide_113
  repeat' (first | with_reducible exact Mo.none | (with_reducible refine Mo.some ?_; exact Nat.le_refl _) | with_reducible refine Mo.ifb ?_ ?_ | with_reducible refine Mo.ix ?_ | with_reducible refine Mo.ckp ?_ | (with_reducible apply hmK26) | (with_reducible refine Mo.trans (mo_X1_run hz) ?_; with_reducible apply hmK26) | with_reducible refine Mo.bind (fun z hz => ?_))
theorem m_X6_decide_154 {N : Nat} : ∀ (loose : Int32) (freer_points : Int32) (freer_pointsPut : Int32) (freer_takenOut : Int32) (freer_bench_parts : Int32) (freer_bench_tree_rows : Int32) (freer_bench_tree_cells : Nat → Int32) (freer_bench_tree_cells_n : Nat) (freer_bench_starts : Nat → Int32) (freer_bench_looses : Nat → Int32) (freer_body_rows : Int32) (freer_body_cells : Nat → Int32) (freer_body_cells_n : Nat) (freer_sum_numbers : Nat → Int64) (freer_rowsOfPoints : Nat → Int32) (freer_spans : Nat → Int32) (freer_bound : Nat → Int32) (formula_rows : Int32) (formula_cells : Nat → Int32) (formula_cells_n : Nat) (copy_rows : Int32) (copy_cells : Nat → Int32) (copy_cells_n : Nat) (above : Nat → Int32) (below_ : Nat → Int32) (s0 : Int32), Mo freer_bench_tree_cells_n (fun z : Int32 × (Int32) × (Int32) × (Int32) × (Int32) × (Int32) × (Nat → Int32) × (Nat) × (Nat → Int32) × (Nat → Int32) × (Int32) × (Nat → Int32) × (Nat → Int64) × (Nat → Int32) × (Nat → Int32) × (Nat → Int32) × (Int32) × (Nat → Int32) => z.2.2.2.2.2.2.2.1) (f_X6_decide_154 N loose freer_points freer_pointsPut freer_takenOut freer_bench_parts freer_bench_tree_rows freer_bench_tree_cells freer_bench_tree_cells_n freer_bench_starts freer_bench_looses freer_body_rows freer_body_cells freer_body_cells_n freer_sum_numbers freer_rowsOfPoints freer_spans freer_bound formula_rows formula_cells formula_cells_n copy_rows copy_cells copy_cells_n above below_ s0) := by
  intro loose freer_points freer_pointsPut freer_takenOut freer_bench_parts freer_bench_tree_rows freer_bench_tree_cells freer_bench_tree_cells_n freer_bench_starts freer_bench_looses freer_body_rows freer_body_cells freer_body_cells_n freer_sum_numbers freer_rowsOfPoints freer_spans freer_bound formula_rows formula_cells formula_cells_n copy_rows copy_cells copy_cells_n above below_ s0
  unfold f_X6_decide_154
  repeat' (first | with_reducible exact Mo.none | (with_reducible refine Mo.some ?_; exact Nat.le_refl _) | with_reducible refine Mo.ifb ?_ ?_ | with_reducible refine Mo.ix ?_ | with_reducible refine Mo.ckp ?_ | with_reducible refine Mo.bind (fun z hz => ?_))
theorem m_X6_decide_130 {N : Nat} : ∀ (loose : Int32) (freer_points : Int32) (freer_pointsPut : Int32) (freer_takenOut : Int32) (freer_bench_parts : Int32) (freer_bench_tree_rows : Int32) (freer_bench_tree_cells : Nat → Int32) (freer_bench_tree_cells_n : Nat) (freer_bench_starts : Nat → Int32) (freer_bench_looses : Nat → Int32) (freer_body_rows : Int32) (freer_body_cells : Nat → Int32) (freer_body_cells_n : Nat) (freer_sum_numbers : Nat → Int64) (freer_rowsOfPoints : Nat → Int32) (freer_spans : Nat → Int32) (freer_bound : Nat → Int32) (formula_rows : Int32) (formula_cells : Nat → Int32) (formula_cells_n : Nat) (copy_rows : Int32) (copy_cells : Nat → Int32) (copy_cells_n : Nat) (above : Nat → Int32) (below_ : Nat → Int32) (s0 : Int32), Mo freer_bench_tree_cells_n (fun z : Int32 × (Int32) × (Int32) × (Int32) × (Int32) × (Int32) × (Nat → Int32) × (Nat) × (Nat → Int32) × (Nat → Int32) × (Int32) × (Nat → Int32) × (Nat → Int64) × (Nat → Int32) × (Nat → Int32) × (Nat → Int32) × (Int32) × (Nat → Int32) => z.2.2.2.2.2.2.2.1) (f_X6_decide_130 N loose freer_points freer_pointsPut freer_takenOut freer_bench_parts freer_bench_tree_rows freer_bench_tree_cells freer_bench_tree_cells_n freer_bench_starts freer_bench_looses freer_body_rows freer_body_cells freer_body_cells_n freer_sum_numbers freer_rowsOfPoints freer_spans freer_bound formula_rows formula_cells formula_cells_n copy_rows copy_cells copy_cells_n above below_ s0) := by
  intro loose freer_points freer_pointsPut freer_takenOut freer_bench_parts freer_bench_tree_rows freer_bench_tree_cells freer_bench_tree_cells_n freer_bench_starts freer_bench_looses freer_body_rows freer_body_cells freer_body_cells_n freer_sum_numbers freer_rowsOfPoints freer_spans freer_bound formula_rows formula_cells formula_cells_n copy_rows copy_cells copy_cells_n above below_ s0
  unfold f_X6_decide_130
  repeat' (first | with_reducible exact Mo.none | (with_reducible refine Mo.some ?_; exact Nat.le_refl _) | with_reducible refine Mo.ifb ?_ ?_ | with_reducible refine Mo.ix ?_ | with_reducible refine Mo.ckp ?_ | (with_reducible apply m_X6_decide_154) | (with_reducible refine Mo.trans (mo_X1_run hz) ?_; with_reducible apply m_X6_decide_154) | with_reducible refine Mo.bind (fun z hz => ?_))
theorem m_X6_decide_26 (N : Nat) : ∀ (n : Nat), ∀ (loose : Int32) (freer_points : Int32) (freer_pointsPut : Int32) (freer_takenOut : Int32) (freer_bench_parts : Int32) (freer_bench_tree_rows : Int32) (freer_bench_tree_cells : Nat → Int32) (freer_bench_tree_cells_n : Nat) (freer_bench_starts : Nat → Int32) (freer_bench_looses : Nat → Int32) (freer_body_rows : Int32) (freer_body_cells : Nat → Int32) (freer_body_cells_n : Nat) (freer_sum_numbers : Nat → Int64) (freer_rowsOfPoints : Nat → Int32) (freer_spans : Nat → Int32) (freer_bound : Nat → Int32) (formula_rows : Int32) (formula_cells : Nat → Int32) (formula_cells_n : Nat) (copy_rows : Int32) (copy_cells : Nat → Int32) (copy_cells_n : Nat) (above : Nat → Int32) (below_ : Nat → Int32) (y1 : Int32) (y2 : Int32), Mo freer_bench_tree_cells_n (fun z : Int32 × (Int32) × (Int32) × (Int32) × (Int32) × (Int32) × (Nat → Int32) × (Nat) × (Nat → Int32) × (Nat → Int32) × (Int32) × (Nat → Int32) × (Nat → Int64) × (Nat → Int32) × (Nat → Int32) × (Nat → Int32) × (Int32) × (Nat → Int32) => z.2.2.2.2.2.2.2.1) (f_X6_decide_26 N n loose freer_points freer_pointsPut freer_takenOut freer_bench_parts freer_bench_tree_rows freer_bench_tree_cells freer_bench_tree_cells_n freer_bench_starts freer_bench_looses freer_body_rows freer_body_cells freer_body_cells_n freer_sum_numbers freer_rowsOfPoints freer_spans freer_bound formula_rows formula_cells formula_cells_n copy_rows copy_cells copy_cells_n above below_ y1 y2) := by
  intro n
  induction n with
  | zero => intro loose freer_points freer_pointsPut freer_takenOut freer_bench_parts freer_bench_tree_rows freer_bench_tree_cells freer_bench_tree_cells_n freer_bench_starts freer_bench_looses freer_body_rows freer_body_cells freer_body_cells_n freer_sum_numbers freer_rowsOfPoints freer_spans freer_bound formula_rows formula_cells formula_cells_n copy_rows copy_cells copy_cells_n above below_ y1 y2 z h; cases h
  | succ n ih =>
    intro loose freer_points freer_pointsPut freer_takenOut freer_bench_parts freer_bench_tree_rows freer_bench_tree_cells freer_bench_tree_cells_n freer_bench_starts freer_bench_looses freer_body_rows freer_body_cells freer_body_cells_n freer_sum_numbers freer_rowsOfPoints freer_spans freer_bound formula_rows formula_cells formula_cells_n copy_rows copy_cells copy_cells_n above below_ y1 y2
    unfold f_X6_decide_26
    repeat' (first | with_reducible exact Mo.none | (with_reducible refine Mo.some ?_; exact Nat.le_refl _) | with_reducible refine Mo.ifb ?_ ?_ | with_reducible refine Mo.ix ?_ | with_reducible refine Mo.ckp ?_ | (with_reducible apply ih) | (with_reducible apply m_X6_decide_113 ih) | (with_reducible apply m_X6_decide_130) | (with_reducible refine Mo.trans (mo_X1_run hz) ?_; with_reducible apply ih) | (with_reducible refine Mo.trans (mo_X1_run hz) ?_; with_reducible apply m_X6_decide_113 ih) | (with_reducible refine Mo.trans (mo_X1_run hz) ?_; with_reducible apply m_X6_decide_130) | with_reducible refine Mo.bind (fun z hz => ?_))
theorem m_X6_decide {N : Nat} : ∀ (loose : Int32) (freer_points : Int32) (freer_pointsPut : Int32) (freer_takenOut : Int32) (freer_bench_parts : Int32) (freer_bench_tree_rows : Int32) (freer_bench_tree_cells : Nat → Int32) (freer_bench_tree_cells_n : Nat) (freer_bench_starts : Nat → Int32) (freer_bench_looses : Nat → Int32) (freer_body_rows : Int32) (freer_body_cells : Nat → Int32) (freer_body_cells_n : Nat) (freer_sum_numbers : Nat → Int64) (freer_rowsOfPoints : Nat → Int32) (freer_spans : Nat → Int32) (freer_bound : Nat → Int32) (formula_rows : Int32) (formula_cells : Nat → Int32) (formula_cells_n : Nat) (copy_rows : Int32) (copy_cells : Nat → Int32) (copy_cells_n : Nat) (above : Nat → Int32) (below_ : Nat → Int32), Mo freer_bench_tree_cells_n (fun z : Int32 × (Int32) × (Int32) × (Int32) × (Int32) × (Int32) × (Nat → Int32) × (Nat) × (Nat → Int32) × (Nat → Int32) × (Int32) × (Nat → Int32) × (Nat → Int64) × (Nat → Int32) × (Nat → Int32) × (Nat → Int32) × (Int32) × (Nat → Int32) => z.2.2.2.2.2.2.2.1) (f_X6_decide N loose freer_points freer_pointsPut freer_takenOut freer_bench_parts freer_bench_tree_rows freer_bench_tree_cells freer_bench_tree_cells_n freer_bench_starts freer_bench_looses freer_body_rows freer_body_cells freer_body_cells_n freer_sum_numbers freer_rowsOfPoints freer_spans freer_bound formula_rows formula_cells formula_cells_n copy_rows copy_cells copy_cells_n above below_) := by
  intro loose freer_points freer_pointsPut freer_takenOut freer_bench_parts freer_bench_tree_rows freer_bench_tree_cells freer_bench_tree_cells_n freer_bench_starts freer_bench_looses freer_body_rows freer_body_cells freer_body_cells_n freer_sum_numbers freer_rowsOfPoints freer_spans freer_bound formula_rows formula_cells formula_cells_n copy_rows copy_cells copy_cells_n above below_
  unfold f_X6_decide
  repeat' (first | with_reducible exact Mo.none | (with_reducible refine Mo.some ?_; exact Nat.le_refl _) | with_reducible refine Mo.ifb ?_ ?_ | with_reducible refine Mo.ix ?_ | with_reducible refine Mo.ckp ?_ | (with_reducible apply m_X6_decide_26) | (with_reducible refine Mo.trans (mo_X1_run hz) ?_; with_reducible apply m_X6_decide_26) | (with_reducible refine Mo.trans (mo_X1_run hz) ?_; with_reducible refine Mo.some ?_; exact Nat.le_refl _) | with_reducible refine Mo.bind (fun z hz => ?_))
theorem mo_X6_decide {N : Nat} {loose : Int32} {freer_points : Int32} {freer_pointsPut : Int32} {freer_takenOut : Int32} {freer_bench_parts : Int32} {freer_bench_tree_rows : Int32} {freer_bench_tree_cells : Nat → Int32} {freer_bench_tree_cells_n : Nat} {freer_bench_starts : Nat → Int32} {freer_bench_looses : Nat → Int32} {freer_body_rows : Int32} {freer_body_cells : Nat → Int32} {freer_body_cells_n : Nat} {freer_sum_numbers : Nat → Int64} {freer_rowsOfPoints : Nat → Int32} {freer_spans : Nat → Int32} {freer_bound : Nat → Int32} {formula_rows : Int32} {formula_cells : Nat → Int32} {formula_cells_n : Nat} {copy_rows : Int32} {copy_cells : Nat → Int32} {copy_cells_n : Nat} {above : Nat → Int32} {below_ : Nat → Int32} {z : Int32 × (Int32) × (Int32) × (Int32) × (Int32) × (Int32) × (Nat → Int32) × (Nat) × (Nat → Int32) × (Nat → Int32) × (Int32) × (Nat → Int32) × (Nat → Int64) × (Nat → Int32) × (Nat → Int32) × (Nat → Int32) × (Int32) × (Nat → Int32)} (h : f_X6_decide N loose freer_points freer_pointsPut freer_takenOut freer_bench_parts freer_bench_tree_rows freer_bench_tree_cells freer_bench_tree_cells_n freer_bench_starts freer_bench_looses freer_body_rows freer_body_cells freer_body_cells_n freer_sum_numbers freer_rowsOfPoints freer_spans freer_bound formula_rows formula_cells formula_cells_n copy_rows copy_cells copy_cells_n above below_ = some z) : ph z.2.2.2.2.2.2.2.1 ≤ ph freer_bench_tree_cells_n := m_X6_decide loose freer_points freer_pointsPut freer_takenOut freer_bench_parts freer_bench_tree_rows freer_bench_tree_cells freer_bench_tree_cells_n freer_bench_starts freer_bench_looses freer_body_rows freer_body_cells freer_body_cells_n freer_sum_numbers freer_rowsOfPoints freer_spans freer_bound formula_rows formula_cells formula_cells_n copy_rows copy_cells copy_cells_n above below_ z h
variable {p : Program} {l : Launch} {e : Env} {s : State} {m : MethodId} {below : List Frame} {meth : Method} {c : Code} {args : Array Value} {x0 : Cond} {D : va_G} {cI cJ cB : ClassId} {sz N : Nat} {ws0 : va_W} {a0 a_reader a_scribe a_spans a_found a_freer a_freer_bench a_freer_bench_tree a_freer_bench_starts a_freer_bench_looses a_freer_body a_freer_body_cells a_freer_sum a_freer_sum_numbers a_freer_rowsOfPoints a_freer_spans a_freer_bound a_formula a_formula_cells a_copy a_copy_cells a_above a_below : Nat} {gn0 : Nat} {loose : Int32} {freer_body_cells_n : Nat} {formula_rows : Int32} {formula_cells : Nat → Int32} {formula_cells_n : Nat} {copy_cells_n : Nat} {above : Nat → Int32} {below_ : Nat → Int32} {z : Int32 × (Int32) × (Int32) × (Int32) × (Int32) × (Int32) × (Nat → Int32) × (Nat) × (Nat → Int32) × (Nat → Int32) × (Int32) × (Nat → Int32) × (Nat → Int64) × (Nat → Int32) × (Nat → Int32) × (Nat → Int32) × (Int32) × (Nat → Int32)}
set_option maxHeartbeats 4000000 in
set_option maxRecDepth 100000 in
theorem w_X6_decide_113 (CX : Cx p m c cX6_decide 3 s args x0 RX6 meth (some .int)) (hK : va_K D vwCl (ty0 cI cJ cB) s) (hsz : s.heap.size = sz) {K26 : Int32 → Int32 → Int32 → Int32 → Int32 → Int32 → (Nat → Int32) → Nat → (Nat → Int32) → (Nat → Int32) → Int32 → (Nat → Int32) → Nat → (Nat → Int64) → (Nat → Int32) → (Nat → Int32) → (Nat → Int32) → Int32 → (Nat → Int32) → Nat → Int32 → (Nat → Int32) → Nat → (Nat → Int32) → (Nat → Int32) → Int32 → Int32 → Option (Int32 × (Int32) × (Int32) × (Int32) × (Int32) × (Int32) × (Nat → Int32) × (Nat) × (Nat → Int32) × (Nat → Int32) × (Int32) × (Nat → Int32) × (Nat → Int64) × (Nat → Int32) × (Nat → Int32) × (Nat → Int32) × (Int32) × (Nat → Int32))} (hK26 : ∀ (a_freer_bench_tree_cells : Nat) (freer_points : Int32) (freer_pointsPut : Int32) (freer_takenOut : Int32) (freer_bench_parts : Int32) (freer_bench_tree_rows : Int32) (freer_bench_tree_cells : Nat → Int32) (freer_bench_tree_cells_n : Nat) (freer_bench_starts : Nat → Int32) (freer_bench_looses : Nat → Int32) (freer_body_rows : Int32) (freer_body_cells : Nat → Int32) (freer_sum_numbers : Nat → Int64) (freer_rowsOfPoints : Nat → Int32) (freer_spans : Nat → Int32) (freer_bound : Nat → Int32) (copy_rows : Int32) (copy_cells : Nat → Int32) (y1 : Int32) (y2 : Int32) (H : Heap) (locs : List Loc) (ls : Array Slot), K26 loose freer_points freer_pointsPut freer_takenOut freer_bench_parts freer_bench_tree_rows freer_bench_tree_cells freer_bench_tree_cells_n freer_bench_starts freer_bench_looses freer_body_rows freer_body_cells freer_body_cells_n freer_sum_numbers freer_rowsOfPoints freer_spans freer_bound formula_rows formula_cells formula_cells_n copy_rows copy_cells copy_cells_n above below_ y1 y2 = some z → va_P D vwCl (ws_X6_decide cI cJ cB a0 a_reader a_scribe a_spans a_found a_freer a_freer_bench a_freer_bench_tree a_freer_bench_tree_cells a_freer_bench_starts a_freer_bench_looses a_freer_body a_freer_body_cells a_freer_sum a_freer_sum_numbers a_freer_rowsOfPoints a_freer_spans a_freer_bound a_formula a_formula_cells a_copy a_copy_cells a_above a_below loose freer_points freer_pointsPut freer_takenOut freer_bench_parts freer_bench_tree_rows freer_bench_tree_cells freer_bench_tree_cells_n freer_bench_starts freer_bench_looses freer_body_rows freer_body_cells freer_body_cells_n freer_sum_numbers freer_rowsOfPoints freer_spans freer_bound formula_rows formula_cells formula_cells_n copy_rows copy_cells copy_cells_n above below_) H → va_D (va_A ws0 sz) (ws_X6_decide cI cJ cB a0 a_reader a_scribe a_spans a_found a_freer a_freer_bench a_freer_bench_tree a_freer_bench_tree_cells a_freer_bench_starts a_freer_bench_looses a_freer_body a_freer_body_cells a_freer_sum a_freer_sum_numbers a_freer_rowsOfPoints a_freer_spans a_freer_bound a_formula a_formula_cells a_copy a_copy_cells a_above a_below loose freer_points freer_pointsPut freer_takenOut freer_bench_parts freer_bench_tree_rows freer_bench_tree_cells freer_bench_tree_cells_n freer_bench_starts freer_bench_looses freer_body_rows freer_body_cells freer_body_cells_n freer_sum_numbers freer_rowsOfPoints freer_spans freer_bound formula_rows formula_cells formula_cells_n copy_rows copy_cells copy_cells_n above below_) → va_S (va_A ws0 sz) s.heap H locs → lv_has ls 3 [(0, .ref a0), (1, .int y1), (2, .int y2)] → ph freer_bench_tree_cells_n ≤ ph gn0 → W p l e (rm_X6_decide (ph gn0 - ph z.2.2.2.2.2.2.2.1)) s m args below meth c H locs (ph gn0 - ph freer_bench_tree_cells_n) (100000 * (ph gn0 - ph freer_bench_tree_cells_n)) (MQ below (xQ D sz ws0 (fun q => (ws_X6_decide cI cJ cB a0 a_reader a_scribe a_spans a_found a_freer a_freer_bench a_freer_bench_tree q a_freer_bench_starts a_freer_bench_looses a_freer_body a_freer_body_cells a_freer_sum a_freer_sum_numbers a_freer_rowsOfPoints a_freer_spans a_freer_bound a_formula a_formula_cells a_copy a_copy_cells a_above a_below loose z.2.1 z.2.2.1 z.2.2.2.1 z.2.2.2.2.1 z.2.2.2.2.2.1 z.2.2.2.2.2.2.1 z.2.2.2.2.2.2.2.1 z.2.2.2.2.2.2.2.2.1 z.2.2.2.2.2.2.2.2.2.1 z.2.2.2.2.2.2.2.2.2.2.1 z.2.2.2.2.2.2.2.2.2.2.2.1 freer_body_cells_n z.2.2.2.2.2.2.2.2.2.2.2.2.1 z.2.2.2.2.2.2.2.2.2.2.2.2.2.1 z.2.2.2.2.2.2.2.2.2.2.2.2.2.2.1 z.2.2.2.2.2.2.2.2.2.2.2.2.2.2.2.1 formula_rows formula_cells formula_cells_n z.2.2.2.2.2.2.2.2.2.2.2.2.2.2.2.2.1 z.2.2.2.2.2.2.2.2.2.2.2.2.2.2.2.2.2 copy_cells_n above below_)) (fun _ => (some (.int z.1)))) args s (ph gn0 - ph z.2.2.2.2.2.2.2.1) (100000 * (ph gn0 - ph z.2.2.2.2.2.2.2.1)) (va_A ws0 sz)) (F0 m 26 ls [])) (hmK26 : ∀ (loose : Int32) (freer_points : Int32) (freer_pointsPut : Int32) (freer_takenOut : Int32) (freer_bench_parts : Int32) (freer_bench_tree_rows : Int32) (freer_bench_tree_cells : Nat → Int32) (freer_bench_tree_cells_n : Nat) (freer_bench_starts : Nat → Int32) (freer_bench_looses : Nat → Int32) (freer_body_rows : Int32) (freer_body_cells : Nat → Int32) (freer_body_cells_n : Nat) (freer_sum_numbers : Nat → Int64) (freer_rowsOfPoints : Nat → Int32) (freer_spans : Nat → Int32) (freer_bound : Nat → Int32) (formula_rows : Int32) (formula_cells : Nat → Int32) (formula_cells_n : Nat) (copy_rows : Int32) (copy_cells : Nat → Int32) (copy_cells_n : Nat) (above : Nat → Int32) (below_ : Nat → Int32) (y1 : Int32) (y2 : Int32), Mo freer_bench_tree_cells_n (fun z : Int32 × (Int32) × (Int32) × (Int32) × (Int32) × (Int32) × (Nat → Int32) × (Nat) × (Nat → Int32) × (Nat → Int32) × (Int32) × (Nat → Int32) × (Nat → Int64) × (Nat → Int32) × (Nat → Int32) × (Nat → Int32) × (Int32) × (Nat → Int32) => z.2.2.2.2.2.2.2.1) (K26 loose freer_points freer_pointsPut freer_takenOut freer_bench_parts freer_bench_tree_rows freer_bench_tree_cells freer_bench_tree_cells_n freer_bench_starts freer_bench_looses freer_body_rows freer_body_cells freer_body_cells_n freer_sum_numbers freer_rowsOfPoints freer_spans freer_bound formula_rows formula_cells formula_cells_n copy_rows copy_cells copy_cells_n above below_ y1 y2)) : ∀ (a_freer_bench_tree_cells : Nat) (freer_points : Int32) (freer_pointsPut : Int32) (freer_takenOut : Int32) (freer_bench_parts : Int32) (freer_bench_tree_rows : Int32) (freer_bench_tree_cells : Nat → Int32) (freer_bench_tree_cells_n : Nat) (freer_bench_starts : Nat → Int32) (freer_bench_looses : Nat → Int32) (freer_body_rows : Int32) (freer_body_cells : Nat → Int32) (freer_sum_numbers : Nat → Int64) (freer_rowsOfPoints : Nat → Int32) (freer_spans : Nat → Int32) (freer_bound : Nat → Int32) (copy_rows : Int32) (copy_cells : Nat → Int32) (y1 : Int32) (y2 : Int32) (H : Heap) (locs : List Loc) (ls : Array Slot), f_X6_decide_113 K26 N loose freer_points freer_pointsPut freer_takenOut freer_bench_parts freer_bench_tree_rows freer_bench_tree_cells freer_bench_tree_cells_n freer_bench_starts freer_bench_looses freer_body_rows freer_body_cells freer_body_cells_n freer_sum_numbers freer_rowsOfPoints freer_spans freer_bound formula_rows formula_cells formula_cells_n copy_rows copy_cells copy_cells_n above below_ y1 y2 = some z → va_P D vwCl (ws_X6_decide cI cJ cB a0 a_reader a_scribe a_spans a_found a_freer a_freer_bench a_freer_bench_tree a_freer_bench_tree_cells a_freer_bench_starts a_freer_bench_looses a_freer_body a_freer_body_cells a_freer_sum a_freer_sum_numbers a_freer_rowsOfPoints a_freer_spans a_freer_bound a_formula a_formula_cells a_copy a_copy_cells a_above a_below loose freer_points freer_pointsPut freer_takenOut freer_bench_parts freer_bench_tree_rows freer_bench_tree_cells freer_bench_tree_cells_n freer_bench_starts freer_bench_looses freer_body_rows freer_body_cells freer_body_cells_n freer_sum_numbers freer_rowsOfPoints freer_spans freer_bound formula_rows formula_cells formula_cells_n copy_rows copy_cells copy_cells_n above below_) H → va_D (va_A ws0 sz) (ws_X6_decide cI cJ cB a0 a_reader a_scribe a_spans a_found a_freer a_freer_bench a_freer_bench_tree a_freer_bench_tree_cells a_freer_bench_starts a_freer_bench_looses a_freer_body a_freer_body_cells a_freer_sum a_freer_sum_numbers a_freer_rowsOfPoints a_freer_spans a_freer_bound a_formula a_formula_cells a_copy a_copy_cells a_above a_below loose freer_points freer_pointsPut freer_takenOut freer_bench_parts freer_bench_tree_rows freer_bench_tree_cells freer_bench_tree_cells_n freer_bench_starts freer_bench_looses freer_body_rows freer_body_cells freer_body_cells_n freer_sum_numbers freer_rowsOfPoints freer_spans freer_bound formula_rows formula_cells formula_cells_n copy_rows copy_cells copy_cells_n above below_) → va_S (va_A ws0 sz) s.heap H locs → lv_has ls 3 [(0, .ref a0), (1, .int y1), (2, .int y2)] → ph freer_bench_tree_cells_n ≤ ph gn0 → W p l e (rm_X6_decide (ph gn0 - ph z.2.2.2.2.2.2.2.1)) s m args below meth c H locs (ph gn0 - ph freer_bench_tree_cells_n) (100000 * (ph gn0 - ph freer_bench_tree_cells_n)) (MQ below (xQ D sz ws0 (fun q => (ws_X6_decide cI cJ cB a0 a_reader a_scribe a_spans a_found a_freer a_freer_bench a_freer_bench_tree q a_freer_bench_starts a_freer_bench_looses a_freer_body a_freer_body_cells a_freer_sum a_freer_sum_numbers a_freer_rowsOfPoints a_freer_spans a_freer_bound a_formula a_formula_cells a_copy a_copy_cells a_above a_below loose z.2.1 z.2.2.1 z.2.2.2.1 z.2.2.2.2.1 z.2.2.2.2.2.1 z.2.2.2.2.2.2.1 z.2.2.2.2.2.2.2.1 z.2.2.2.2.2.2.2.2.1 z.2.2.2.2.2.2.2.2.2.1 z.2.2.2.2.2.2.2.2.2.2.1 z.2.2.2.2.2.2.2.2.2.2.2.1 freer_body_cells_n z.2.2.2.2.2.2.2.2.2.2.2.2.1 z.2.2.2.2.2.2.2.2.2.2.2.2.2.1 z.2.2.2.2.2.2.2.2.2.2.2.2.2.2.1 z.2.2.2.2.2.2.2.2.2.2.2.2.2.2.2.1 formula_rows formula_cells formula_cells_n z.2.2.2.2.2.2.2.2.2.2.2.2.2.2.2.2.1 z.2.2.2.2.2.2.2.2.2.2.2.2.2.2.2.2.2 copy_cells_n above below_)) (fun _ => (some (.int z.1)))) args s (ph gn0 - ph z.2.2.2.2.2.2.2.1) (100000 * (ph gn0 - ph z.2.2.2.2.2.2.2.1)) (va_A ws0 sz)) (F0 m 113 ls []) := by
  obtain ⟨F, hr, hlk, hNw⟩ := id CX
  have hx := F.1
  have hb := F.2.1
  have hown := F.2.2.2.1
  have hA : ∀ q, s.heap.size ≤ q → va_A ws0 sz q := fun q hq => Or.inr (hsz ▸ hq)
  intro a_freer_bench_tree_cells freer_points freer_pointsPut freer_takenOut freer_bench_parts freer_bench_tree_rows freer_bench_tree_cells freer_bench_tree_cells_n freer_bench_starts freer_bench_looses freer_body_rows freer_body_cells freer_sum_numbers freer_rowsOfPoints freer_spans freer_bound copy_rows copy_cells y1 y2 H locs ls h hP hD hS hl hph
  have hm : ph z.2.2.2.2.2.2.2.1 ≤ ph freer_bench_tree_cells_n := by apply m_X6_decide_113 hmK26; exact h
  have hq1 : ph gn0 - ph freer_bench_tree_cells_n ≤ ph gn0 - ph z.2.2.2.2.2.2.2.1 := by omega
  have hq2 : 100000 * (ph gn0 - ph freer_bench_tree_cells_n) ≤ 100000 * (ph gn0 - ph z.2.2.2.2.2.2.2.1) := by omega
  unfold f_X6_decide_113 at h
  refine lv_iinc (v := y2 + 1) (lv' := [(2, .int (y2 + 1)), (0, .ref a0), (1, .int y1)]) hx hb dX6_decide_113 hl (k := 2) rfl rfl (by decide) rfl (fun ls hl => ?_)
  refine lv_goto (tgt := 26) hx hb dX6_decide_116 (by decide) ?_
  exact hK26 a_freer_bench_tree_cells freer_points freer_pointsPut freer_takenOut freer_bench_parts freer_bench_tree_rows freer_bench_tree_cells freer_bench_tree_cells_n freer_bench_starts freer_bench_looses freer_body_rows freer_body_cells freer_sum_numbers freer_rowsOfPoints freer_spans freer_bound copy_rows copy_cells y1 (y2 + 1) _ _ _ h hP hD hS (lv_sub hl [1, 2, 0] rfl) hph
set_option maxHeartbeats 4000000 in
set_option maxRecDepth 100000 in
theorem w_X6_decide_154 (CX : Cx p m c cX6_decide 3 s args x0 RX6 meth (some .int)) (hK : va_K D vwCl (ty0 cI cJ cB) s) (hsz : s.heap.size = sz) : ∀ (a_freer_bench_tree_cells : Nat) (freer_points : Int32) (freer_pointsPut : Int32) (freer_takenOut : Int32) (freer_bench_parts : Int32) (freer_bench_tree_rows : Int32) (freer_bench_tree_cells : Nat → Int32) (freer_bench_tree_cells_n : Nat) (freer_bench_starts : Nat → Int32) (freer_bench_looses : Nat → Int32) (freer_body_rows : Int32) (freer_body_cells : Nat → Int32) (freer_sum_numbers : Nat → Int64) (freer_rowsOfPoints : Nat → Int32) (freer_spans : Nat → Int32) (freer_bound : Nat → Int32) (copy_rows : Int32) (copy_cells : Nat → Int32) (s0 : Int32) (H : Heap) (locs : List Loc) (ls : Array Slot), f_X6_decide_154 N loose freer_points freer_pointsPut freer_takenOut freer_bench_parts freer_bench_tree_rows freer_bench_tree_cells freer_bench_tree_cells_n freer_bench_starts freer_bench_looses freer_body_rows freer_body_cells freer_body_cells_n freer_sum_numbers freer_rowsOfPoints freer_spans freer_bound formula_rows formula_cells formula_cells_n copy_rows copy_cells copy_cells_n above below_ s0 = some z → va_P D vwCl (ws_X6_decide cI cJ cB a0 a_reader a_scribe a_spans a_found a_freer a_freer_bench a_freer_bench_tree a_freer_bench_tree_cells a_freer_bench_starts a_freer_bench_looses a_freer_body a_freer_body_cells a_freer_sum a_freer_sum_numbers a_freer_rowsOfPoints a_freer_spans a_freer_bound a_formula a_formula_cells a_copy a_copy_cells a_above a_below loose freer_points freer_pointsPut freer_takenOut freer_bench_parts freer_bench_tree_rows freer_bench_tree_cells freer_bench_tree_cells_n freer_bench_starts freer_bench_looses freer_body_rows freer_body_cells freer_body_cells_n freer_sum_numbers freer_rowsOfPoints freer_spans freer_bound formula_rows formula_cells formula_cells_n copy_rows copy_cells copy_cells_n above below_) H → va_D (va_A ws0 sz) (ws_X6_decide cI cJ cB a0 a_reader a_scribe a_spans a_found a_freer a_freer_bench a_freer_bench_tree a_freer_bench_tree_cells a_freer_bench_starts a_freer_bench_looses a_freer_body a_freer_body_cells a_freer_sum a_freer_sum_numbers a_freer_rowsOfPoints a_freer_spans a_freer_bound a_formula a_formula_cells a_copy a_copy_cells a_above a_below loose freer_points freer_pointsPut freer_takenOut freer_bench_parts freer_bench_tree_rows freer_bench_tree_cells freer_bench_tree_cells_n freer_bench_starts freer_bench_looses freer_body_rows freer_body_cells freer_body_cells_n freer_sum_numbers freer_rowsOfPoints freer_spans freer_bound formula_rows formula_cells formula_cells_n copy_rows copy_cells copy_cells_n above below_) → va_S (va_A ws0 sz) s.heap H locs → lv_has ls 3 [] → ph freer_bench_tree_cells_n ≤ ph gn0 → W p l e (rm_X6_decide (ph gn0 - ph z.2.2.2.2.2.2.2.1)) s m args below meth c H locs (ph gn0 - ph freer_bench_tree_cells_n) (100000 * (ph gn0 - ph freer_bench_tree_cells_n)) (MQ below (xQ D sz ws0 (fun q => (ws_X6_decide cI cJ cB a0 a_reader a_scribe a_spans a_found a_freer a_freer_bench a_freer_bench_tree q a_freer_bench_starts a_freer_bench_looses a_freer_body a_freer_body_cells a_freer_sum a_freer_sum_numbers a_freer_rowsOfPoints a_freer_spans a_freer_bound a_formula a_formula_cells a_copy a_copy_cells a_above a_below loose z.2.1 z.2.2.1 z.2.2.2.1 z.2.2.2.2.1 z.2.2.2.2.2.1 z.2.2.2.2.2.2.1 z.2.2.2.2.2.2.2.1 z.2.2.2.2.2.2.2.2.1 z.2.2.2.2.2.2.2.2.2.1 z.2.2.2.2.2.2.2.2.2.2.1 z.2.2.2.2.2.2.2.2.2.2.2.1 freer_body_cells_n z.2.2.2.2.2.2.2.2.2.2.2.2.1 z.2.2.2.2.2.2.2.2.2.2.2.2.2.1 z.2.2.2.2.2.2.2.2.2.2.2.2.2.2.1 z.2.2.2.2.2.2.2.2.2.2.2.2.2.2.2.1 formula_rows formula_cells formula_cells_n z.2.2.2.2.2.2.2.2.2.2.2.2.2.2.2.2.1 z.2.2.2.2.2.2.2.2.2.2.2.2.2.2.2.2.2 copy_cells_n above below_)) (fun _ => (some (.int z.1)))) args s (ph gn0 - ph z.2.2.2.2.2.2.2.1) (100000 * (ph gn0 - ph z.2.2.2.2.2.2.2.1)) (va_A ws0 sz)) (F0 m 154 ls [.int s0]) := by
  obtain ⟨F, hr, hlk, hNw⟩ := id CX
  have hx := F.1
  have hb := F.2.1
  have hown := F.2.2.2.1
  have hA : ∀ q, s.heap.size ≤ q → va_A ws0 sz q := fun q hq => Or.inr (hsz ▸ hq)
  intro a_freer_bench_tree_cells freer_points freer_pointsPut freer_takenOut freer_bench_parts freer_bench_tree_rows freer_bench_tree_cells freer_bench_tree_cells_n freer_bench_starts freer_bench_looses freer_body_rows freer_body_cells freer_sum_numbers freer_rowsOfPoints freer_spans freer_bound copy_rows copy_cells s0 H locs ls h hP hD hS hl hph
  have hm : ph z.2.2.2.2.2.2.2.1 ≤ ph freer_bench_tree_cells_n := by apply m_X6_decide_154; exact h
  have hq1 : ph gn0 - ph freer_bench_tree_cells_n ≤ ph gn0 - ph z.2.2.2.2.2.2.2.1 := by omega
  have hq2 : 100000 * (ph gn0 - ph freer_bench_tree_cells_n) ≤ 100000 * (ph gn0 - ph z.2.2.2.2.2.2.2.1) := by omega
  unfold f_X6_decide_154 at h
  obtain rfl := Option.some.inj h
  refine W.widen hq1 hq2 ?_
  exact z_ret (v := s0) F hr hlk rfl dX6_decide_154 a_freer_bench_tree_cells rfl hP hD hS
set_option maxHeartbeats 4000000 in
set_option maxRecDepth 100000 in
theorem w_X6_decide_130 (CX : Cx p m c cX6_decide 3 s args x0 RX6 meth (some .int)) (hK : va_K D vwCl (ty0 cI cJ cB) s) (hsz : s.heap.size = sz) : ∀ (a_freer_bench_tree_cells : Nat) (freer_points : Int32) (freer_pointsPut : Int32) (freer_takenOut : Int32) (freer_bench_parts : Int32) (freer_bench_tree_rows : Int32) (freer_bench_tree_cells : Nat → Int32) (freer_bench_tree_cells_n : Nat) (freer_bench_starts : Nat → Int32) (freer_bench_looses : Nat → Int32) (freer_body_rows : Int32) (freer_body_cells : Nat → Int32) (freer_sum_numbers : Nat → Int64) (freer_rowsOfPoints : Nat → Int32) (freer_spans : Nat → Int32) (freer_bound : Nat → Int32) (copy_rows : Int32) (copy_cells : Nat → Int32) (s0 : Int32) (H : Heap) (locs : List Loc) (ls : Array Slot), f_X6_decide_130 N loose freer_points freer_pointsPut freer_takenOut freer_bench_parts freer_bench_tree_rows freer_bench_tree_cells freer_bench_tree_cells_n freer_bench_starts freer_bench_looses freer_body_rows freer_body_cells freer_body_cells_n freer_sum_numbers freer_rowsOfPoints freer_spans freer_bound formula_rows formula_cells formula_cells_n copy_rows copy_cells copy_cells_n above below_ s0 = some z → va_P D vwCl (ws_X6_decide cI cJ cB a0 a_reader a_scribe a_spans a_found a_freer a_freer_bench a_freer_bench_tree a_freer_bench_tree_cells a_freer_bench_starts a_freer_bench_looses a_freer_body a_freer_body_cells a_freer_sum a_freer_sum_numbers a_freer_rowsOfPoints a_freer_spans a_freer_bound a_formula a_formula_cells a_copy a_copy_cells a_above a_below loose freer_points freer_pointsPut freer_takenOut freer_bench_parts freer_bench_tree_rows freer_bench_tree_cells freer_bench_tree_cells_n freer_bench_starts freer_bench_looses freer_body_rows freer_body_cells freer_body_cells_n freer_sum_numbers freer_rowsOfPoints freer_spans freer_bound formula_rows formula_cells formula_cells_n copy_rows copy_cells copy_cells_n above below_) H → va_D (va_A ws0 sz) (ws_X6_decide cI cJ cB a0 a_reader a_scribe a_spans a_found a_freer a_freer_bench a_freer_bench_tree a_freer_bench_tree_cells a_freer_bench_starts a_freer_bench_looses a_freer_body a_freer_body_cells a_freer_sum a_freer_sum_numbers a_freer_rowsOfPoints a_freer_spans a_freer_bound a_formula a_formula_cells a_copy a_copy_cells a_above a_below loose freer_points freer_pointsPut freer_takenOut freer_bench_parts freer_bench_tree_rows freer_bench_tree_cells freer_bench_tree_cells_n freer_bench_starts freer_bench_looses freer_body_rows freer_body_cells freer_body_cells_n freer_sum_numbers freer_rowsOfPoints freer_spans freer_bound formula_rows formula_cells formula_cells_n copy_rows copy_cells copy_cells_n above below_) → va_S (va_A ws0 sz) s.heap H locs → lv_has ls 3 [(0, .ref a0)] → ph freer_bench_tree_cells_n ≤ ph gn0 → W p l e (rm_X6_decide (ph gn0 - ph z.2.2.2.2.2.2.2.1)) s m args below meth c H locs (ph gn0 - ph freer_bench_tree_cells_n) (100000 * (ph gn0 - ph freer_bench_tree_cells_n)) (MQ below (xQ D sz ws0 (fun q => (ws_X6_decide cI cJ cB a0 a_reader a_scribe a_spans a_found a_freer a_freer_bench a_freer_bench_tree q a_freer_bench_starts a_freer_bench_looses a_freer_body a_freer_body_cells a_freer_sum a_freer_sum_numbers a_freer_rowsOfPoints a_freer_spans a_freer_bound a_formula a_formula_cells a_copy a_copy_cells a_above a_below loose z.2.1 z.2.2.1 z.2.2.2.1 z.2.2.2.2.1 z.2.2.2.2.2.1 z.2.2.2.2.2.2.1 z.2.2.2.2.2.2.2.1 z.2.2.2.2.2.2.2.2.1 z.2.2.2.2.2.2.2.2.2.1 z.2.2.2.2.2.2.2.2.2.2.1 z.2.2.2.2.2.2.2.2.2.2.2.1 freer_body_cells_n z.2.2.2.2.2.2.2.2.2.2.2.2.1 z.2.2.2.2.2.2.2.2.2.2.2.2.2.1 z.2.2.2.2.2.2.2.2.2.2.2.2.2.2.1 z.2.2.2.2.2.2.2.2.2.2.2.2.2.2.2.1 formula_rows formula_cells formula_cells_n z.2.2.2.2.2.2.2.2.2.2.2.2.2.2.2.2.1 z.2.2.2.2.2.2.2.2.2.2.2.2.2.2.2.2.2 copy_cells_n above below_)) (fun _ => (some (.int z.1)))) args s (ph gn0 - ph z.2.2.2.2.2.2.2.1) (100000 * (ph gn0 - ph z.2.2.2.2.2.2.2.1)) (va_A ws0 sz)) (F0 m 130 ls [.int s0]) := by
  obtain ⟨F, hr, hlk, hNw⟩ := id CX
  have hx := F.1
  have hb := F.2.1
  have hown := F.2.2.2.1
  have hA : ∀ q, s.heap.size ≤ q → va_A ws0 sz q := fun q hq => Or.inr (hsz ▸ hq)
  intro a_freer_bench_tree_cells freer_points freer_pointsPut freer_takenOut freer_bench_parts freer_bench_tree_rows freer_bench_tree_cells freer_bench_tree_cells_n freer_bench_starts freer_bench_looses freer_body_rows freer_body_cells freer_sum_numbers freer_rowsOfPoints freer_spans freer_bound copy_rows copy_cells s0 H locs ls h hP hD hS hl hph
  have hm : ph z.2.2.2.2.2.2.2.1 ≤ ph freer_bench_tree_cells_n := by apply m_X6_decide_130; exact h
  have hq1 : ph gn0 - ph freer_bench_tree_cells_n ≤ ph gn0 - ph z.2.2.2.2.2.2.2.1 := by omega
  have hq2 : 100000 * (ph gn0 - ph freer_bench_tree_cells_n) ≤ 100000 * (ph gn0 - ph z.2.2.2.2.2.2.2.1) := by omega
  unfold f_X6_decide_130 at h
  refine lv_if_ne (tgt := 136) hx hb dX6_decide_130 (by decide) (fun c130 => ?_) (fun c130 => ?_)
  · have h := o_f c130 h
    refine lv_aload_n hx hb dX6_decide_136 rfl (lv_at hl 0 rfl) ?_
    refine r_get F hK hP 0 1 rfl inW_X6 wm_584 rfl (by decide) rfl dX6_decide_137 ?_
    refine r_getN F hNw hK hP 1 0 rfl inW_X1 nf_X6_103 rfl (by decide) rfl dX6_decide_140 ?_
    obtain ⟨z143, hz143, h⟩ := o_b h
    refine k_v (wn := (ws_X6_decide cI cJ cB a0 a_reader a_scribe a_spans a_found a_freer a_freer_bench a_freer_bench_tree a_freer_bench_tree_cells a_freer_bench_starts a_freer_bench_looses a_freer_body a_freer_body_cells a_freer_sum a_freer_sum_numbers a_freer_rowsOfPoints a_freer_spans a_freer_bound a_formula a_formula_cells a_copy a_copy_cells a_above a_below loose freer_points freer_pointsPut freer_takenOut freer_bench_parts freer_bench_tree_rows freer_bench_tree_cells freer_bench_tree_cells_n freer_bench_starts freer_bench_looses freer_body_rows freer_body_cells freer_body_cells_n freer_sum_numbers freer_rowsOfPoints freer_spans freer_bound formula_rows formula_cells formula_cells_n copy_rows copy_cells copy_cells_n above below_)) (As := []) (rest := []) F hNw hK hP hD hS hA (c_X0_lastKind l D cI cJ cB a_freer_bench a_freer_bench_starts a_freer_bench_looses a_freer_bench_tree a_freer_bench_tree_cells _ freer_bench_parts freer_bench_tree_rows freer_bench_tree_cells freer_bench_tree_cells_n N hz143) wm_921 cv_X0_lastKind [2, 3, 4] [0, 1, 5, 6, 7, 8, 9, 10, 11, 12, 13, 14, 15, 16, 17, 18, 19] [0, 1, 17, 18, 19, 2, 3, 4, 5, 6, 7, 8, 9, 10, 11, 12, 13, 14, 15, 16] (⟨rfl, rfl, rfl, by decide, rfl⟩ : Ix [2, 3, 4] [0, 1, 5, 6, 7, 8, 9, 10, 11, 12, 13, 14, 15, 16, 17, 18, 19] [0, 1, 17, 18, 19, 2, 3, 4, 5, 6, 7, 8, 9, 10, 11, 12, 13, 14, 15, 16] 20) rfl (hN_of 17 20 (by decide +kernel) rfl (by decide +kernel) rfl) rfl rfl rfl rfl ⟨rfl, rfl, Nat.le_of_ble_eq_true rfl, Nat.le_of_ble_eq_true rfl⟩ hl.1 rfl (Nat.le_of_ble_eq_true rfl) ⟨hq1, hq2⟩ dX6_decide_143 (fun H locs hP hD hS => ?_)
    refine lv_if_ne (tgt := 153) hx hb dX6_decide_146 (by decide) (fun c146 => ?_) (fun c146 => ?_)
    · have h := o_f c146 h
      refine lv_iconst (v := 0) hx hb dX6_decide_153 (by decide) ?_
      exact w_X6_decide_154 CX hK hsz a_freer_bench_tree_cells freer_points freer_pointsPut freer_takenOut freer_bench_parts freer_bench_tree_rows freer_bench_tree_cells freer_bench_tree_cells_n freer_bench_starts freer_bench_looses freer_body_rows freer_body_cells freer_sum_numbers freer_rowsOfPoints freer_spans freer_bound copy_rows copy_cells 0 _ _ _ h hP hD hS (lv_sub hl [] rfl) hph
    · have h := o_t c146 h
      refine lv_iconst (v := 1) hx hb dX6_decide_149 (by decide) ?_
      refine lv_goto (tgt := 154) hx hb dX6_decide_150 (by decide) ?_
      exact w_X6_decide_154 CX hK hsz a_freer_bench_tree_cells freer_points freer_pointsPut freer_takenOut freer_bench_parts freer_bench_tree_rows freer_bench_tree_cells freer_bench_tree_cells_n freer_bench_starts freer_bench_looses freer_body_rows freer_body_cells freer_sum_numbers freer_rowsOfPoints freer_spans freer_bound copy_rows copy_cells 1 _ _ _ h hP hD hS (lv_sub hl [] rfl) hph
  · have h := o_t c130 h
    refine lv_bipush (v := (-2)) hx hb dX6_decide_133 (by decide) ?_
    obtain rfl := Option.some.inj h
    refine W.widen hq1 hq2 ?_
    exact z_ret (v := (-2)) F hr hlk rfl dX6_decide_135 a_freer_bench_tree_cells rfl hP hD hS
set_option maxHeartbeats 4000000 in
set_option maxRecDepth 100000 in
theorem w_X6_decide_26 (CX : Cx p m c cX6_decide 3 s args x0 RX6 meth (some .int)) (hK : va_K D vwCl (ty0 cI cJ cB) s) (hsz : s.heap.size = sz) : ∀ (n : Nat), ∀ (a_freer_bench_tree_cells : Nat) (freer_points : Int32) (freer_pointsPut : Int32) (freer_takenOut : Int32) (freer_bench_parts : Int32) (freer_bench_tree_rows : Int32) (freer_bench_tree_cells : Nat → Int32) (freer_bench_tree_cells_n : Nat) (freer_bench_starts : Nat → Int32) (freer_bench_looses : Nat → Int32) (freer_body_rows : Int32) (freer_body_cells : Nat → Int32) (freer_sum_numbers : Nat → Int64) (freer_rowsOfPoints : Nat → Int32) (freer_spans : Nat → Int32) (freer_bound : Nat → Int32) (copy_rows : Int32) (copy_cells : Nat → Int32) (y1 : Int32) (y2 : Int32) (H : Heap) (locs : List Loc) (ls : Array Slot), f_X6_decide_26 N n loose freer_points freer_pointsPut freer_takenOut freer_bench_parts freer_bench_tree_rows freer_bench_tree_cells freer_bench_tree_cells_n freer_bench_starts freer_bench_looses freer_body_rows freer_body_cells freer_body_cells_n freer_sum_numbers freer_rowsOfPoints freer_spans freer_bound formula_rows formula_cells formula_cells_n copy_rows copy_cells copy_cells_n above below_ y1 y2 = some z → va_P D vwCl (ws_X6_decide cI cJ cB a0 a_reader a_scribe a_spans a_found a_freer a_freer_bench a_freer_bench_tree a_freer_bench_tree_cells a_freer_bench_starts a_freer_bench_looses a_freer_body a_freer_body_cells a_freer_sum a_freer_sum_numbers a_freer_rowsOfPoints a_freer_spans a_freer_bound a_formula a_formula_cells a_copy a_copy_cells a_above a_below loose freer_points freer_pointsPut freer_takenOut freer_bench_parts freer_bench_tree_rows freer_bench_tree_cells freer_bench_tree_cells_n freer_bench_starts freer_bench_looses freer_body_rows freer_body_cells freer_body_cells_n freer_sum_numbers freer_rowsOfPoints freer_spans freer_bound formula_rows formula_cells formula_cells_n copy_rows copy_cells copy_cells_n above below_) H → va_D (va_A ws0 sz) (ws_X6_decide cI cJ cB a0 a_reader a_scribe a_spans a_found a_freer a_freer_bench a_freer_bench_tree a_freer_bench_tree_cells a_freer_bench_starts a_freer_bench_looses a_freer_body a_freer_body_cells a_freer_sum a_freer_sum_numbers a_freer_rowsOfPoints a_freer_spans a_freer_bound a_formula a_formula_cells a_copy a_copy_cells a_above a_below loose freer_points freer_pointsPut freer_takenOut freer_bench_parts freer_bench_tree_rows freer_bench_tree_cells freer_bench_tree_cells_n freer_bench_starts freer_bench_looses freer_body_rows freer_body_cells freer_body_cells_n freer_sum_numbers freer_rowsOfPoints freer_spans freer_bound formula_rows formula_cells formula_cells_n copy_rows copy_cells copy_cells_n above below_) → va_S (va_A ws0 sz) s.heap H locs → lv_has ls 3 [(0, .ref a0), (1, .int y1), (2, .int y2)] → ph freer_bench_tree_cells_n ≤ ph gn0 → W p l e (rm_X6_decide (ph gn0 - ph z.2.2.2.2.2.2.2.1)) s m args below meth c H locs (ph gn0 - ph freer_bench_tree_cells_n) (100000 * (ph gn0 - ph freer_bench_tree_cells_n)) (MQ below (xQ D sz ws0 (fun q => (ws_X6_decide cI cJ cB a0 a_reader a_scribe a_spans a_found a_freer a_freer_bench a_freer_bench_tree q a_freer_bench_starts a_freer_bench_looses a_freer_body a_freer_body_cells a_freer_sum a_freer_sum_numbers a_freer_rowsOfPoints a_freer_spans a_freer_bound a_formula a_formula_cells a_copy a_copy_cells a_above a_below loose z.2.1 z.2.2.1 z.2.2.2.1 z.2.2.2.2.1 z.2.2.2.2.2.1 z.2.2.2.2.2.2.1 z.2.2.2.2.2.2.2.1 z.2.2.2.2.2.2.2.2.1 z.2.2.2.2.2.2.2.2.2.1 z.2.2.2.2.2.2.2.2.2.2.1 z.2.2.2.2.2.2.2.2.2.2.2.1 freer_body_cells_n z.2.2.2.2.2.2.2.2.2.2.2.2.1 z.2.2.2.2.2.2.2.2.2.2.2.2.2.1 z.2.2.2.2.2.2.2.2.2.2.2.2.2.2.1 z.2.2.2.2.2.2.2.2.2.2.2.2.2.2.2.1 formula_rows formula_cells formula_cells_n z.2.2.2.2.2.2.2.2.2.2.2.2.2.2.2.2.1 z.2.2.2.2.2.2.2.2.2.2.2.2.2.2.2.2.2 copy_cells_n above below_)) (fun _ => (some (.int z.1)))) args s (ph gn0 - ph z.2.2.2.2.2.2.2.1) (100000 * (ph gn0 - ph z.2.2.2.2.2.2.2.1)) (va_A ws0 sz)) (F0 m 26 ls []) := by
  obtain ⟨F, hr, hlk, hNw⟩ := id CX
  have hx := F.1
  have hb := F.2.1
  have hown := F.2.2.2.1
  have hA : ∀ q, s.heap.size ≤ q → va_A ws0 sz q := fun q hq => Or.inr (hsz ▸ hq)
  intro n
  induction n with
  | zero =>
    intro a_freer_bench_tree_cells freer_points freer_pointsPut freer_takenOut freer_bench_parts freer_bench_tree_rows freer_bench_tree_cells freer_bench_tree_cells_n freer_bench_starts freer_bench_looses freer_body_rows freer_body_cells freer_sum_numbers freer_rowsOfPoints freer_spans freer_bound copy_rows copy_cells y1 y2 H locs ls h
    cases h
  | succ n ih =>
    intro a_freer_bench_tree_cells freer_points freer_pointsPut freer_takenOut freer_bench_parts freer_bench_tree_rows freer_bench_tree_cells freer_bench_tree_cells_n freer_bench_starts freer_bench_looses freer_body_rows freer_body_cells freer_sum_numbers freer_rowsOfPoints freer_spans freer_bound copy_rows copy_cells y1 y2 H locs ls h hP hD hS hl hph
    have hm : ph z.2.2.2.2.2.2.2.1 ≤ ph freer_bench_tree_cells_n := by apply m_X6_decide_26 N (n + 1); exact h
    have hq1 : ph gn0 - ph freer_bench_tree_cells_n ≤ ph gn0 - ph z.2.2.2.2.2.2.2.1 := by omega
    have hq2 : 100000 * (ph gn0 - ph freer_bench_tree_cells_n) ≤ 100000 * (ph gn0 - ph z.2.2.2.2.2.2.2.1) := by omega
    unfold f_X6_decide_26 at h
    refine lv_iload_n hx hb dX6_decide_26 rfl (lv_at hl 2 rfl) ?_
    refine lv_bipush (v := 8) hx hb dX6_decide_27 (by decide) ?_
    refine lv_icmp_ge (tgt := 119) hx hb dX6_decide_29 (by decide) (fun c29 => ?_) (fun c29 => ?_)
    · have h := o_t c29 h
      refine lv_aload_n hx hb dX6_decide_119 rfl (lv_at hl 0 rfl) ?_
      refine r_get F hK hP 0 1 rfl inW_X6 wm_584 rfl (by decide) rfl dX6_decide_120 ?_
      refine lv_aload_n hx hb dX6_decide_123 rfl (lv_at hl 0 rfl) ?_
      refine r_get F hK hP 0 4 rfl inW_X6 wm_587 rfl (by decide) rfl dX6_decide_124 ?_
      obtain ⟨z127, hz127, h⟩ := o_b h
      have hp127 : ph z127.2.2.2.2.2.2.2.1 ≤ ph freer_bench_tree_cells_n := mo_X1_run hz127
      have hm9 : ph z.2.2.2.2.2.2.2.1 ≤ ph z127.2.2.2.2.2.2.2.1 := by apply m_X6_decide_130; exact h
      refine kz_v (wn := fun q127 => (ws_X6_decide cI cJ cB a0 a_reader a_scribe a_spans a_found a_freer a_freer_bench a_freer_bench_tree q127 a_freer_bench_starts a_freer_bench_looses a_freer_body a_freer_body_cells a_freer_sum a_freer_sum_numbers a_freer_rowsOfPoints a_freer_spans a_freer_bound a_formula a_formula_cells a_copy a_copy_cells a_above a_below loose z127.2.1 z127.2.2.1 z127.2.2.2.1 z127.2.2.2.2.1 z127.2.2.2.2.2.1 z127.2.2.2.2.2.2.1 z127.2.2.2.2.2.2.2.1 z127.2.2.2.2.2.2.2.2.1 z127.2.2.2.2.2.2.2.2.2.1 z127.2.2.2.2.2.2.2.2.2.2.1 z127.2.2.2.2.2.2.2.2.2.2.2.1 freer_body_cells_n z127.2.2.2.2.2.2.2.2.2.2.2.2.1 z127.2.2.2.2.2.2.2.2.2.2.2.2.2 freer_spans freer_bound formula_rows formula_cells formula_cells_n copy_rows copy_cells copy_cells_n above below_)) (As := [.ref a_copy]) (rest := []) F hNw hK hP hD hS hA (c_X1_run l D cI cJ cB a_freer a_freer_spans a_freer_bound a_freer_bench a_freer_bench_tree a_freer_bench_tree_cells a_freer_bench_starts a_freer_bench_looses a_freer_body a_freer_body_cells a_freer_sum a_freer_sum_numbers a_freer_rowsOfPoints a_copy a_copy_cells _ freer_points freer_pointsPut freer_takenOut freer_bench_parts freer_bench_tree_rows freer_bench_tree_cells freer_bench_tree_cells_n freer_bench_starts freer_bench_looses freer_body_rows freer_body_cells freer_body_cells_n freer_sum_numbers freer_rowsOfPoints copy_rows copy_cells copy_cells_n N hz127).2 wm_827 cv_X1_run [1, 2, 3, 4, 5, 6, 7, 8, 9, 10, 11, 16, 17] [0, 12, 13, 14, 15, 18, 19] [0, 7, 8, 9, 10, 11, 12, 13, 14, 15, 16, 17, 1, 2, 3, 4, 18, 19, 5, 6] (⟨rfl, rfl, rfl, by decide, rfl⟩ : Ix [1, 2, 3, 4, 5, 6, 7, 8, 9, 10, 11, 16, 17] [0, 12, 13, 14, 15, 18, 19] [0, 7, 8, 9, 10, 11, 12, 13, 14, 15, 16, 17, 1, 2, 3, 4, 18, 19, 5, 6] 20) rfl (fun q127 => rfl) rfl rfl rfl rfl ⟨rfl, rfl, Nat.le_of_ble_eq_true rfl, Nat.le_of_ble_eq_true rfl⟩ hl.1 rfl (Nat.le_of_ble_eq_true rfl) ⟨by show (ph gn0 - ph freer_bench_tree_cells_n) + (ph freer_bench_tree_cells_n - ph z127.2.2.2.2.2.2.2.1) ≤ ph gn0 - ph z.2.2.2.2.2.2.2.1; omega, by show 100000 * (ph gn0 - ph freer_bench_tree_cells_n) + 100000 * (ph freer_bench_tree_cells_n - ph z127.2.2.2.2.2.2.2.1) ≤ 100000 * (ph gn0 - ph z.2.2.2.2.2.2.2.1); omega⟩ dX6_decide_127 (fun q127 H locs hP hD hS => ?_)
      have hph9 : ph z127.2.2.2.2.2.2.2.1 ≤ ph gn0 := Nat.le_trans hp127 hph
      refine W.widen (k := ph gn0 - ph z127.2.2.2.2.2.2.2.1) (n := 100000 * (ph gn0 - ph z127.2.2.2.2.2.2.2.1)) (by omega) (by omega) ?_
      have hph := hph9
      exact w_X6_decide_130 CX hK hsz q127 z127.2.1 z127.2.2.1 z127.2.2.2.1 z127.2.2.2.2.1 z127.2.2.2.2.2.1 z127.2.2.2.2.2.2.1 z127.2.2.2.2.2.2.2.1 z127.2.2.2.2.2.2.2.2.1 z127.2.2.2.2.2.2.2.2.2.1 z127.2.2.2.2.2.2.2.2.2.2.1 z127.2.2.2.2.2.2.2.2.2.2.2.1 z127.2.2.2.2.2.2.2.2.2.2.2.2.1 z127.2.2.2.2.2.2.2.2.2.2.2.2.2 freer_spans freer_bound copy_rows copy_cells z127.1 _ _ _ h hP hD hS (lv_sub hl [0] rfl) hph
    · have h := o_f c29 h
      refine lv_iload_n hx hb dX6_decide_32 rfl (lv_at hl 1 rfl) ?_
      refine lv_iload_n hx hb dX6_decide_33 rfl (lv_at hl 2 rfl) ?_
      refine lv_ishr hx hb dX6_decide_34 ?_
      refine lv_iconst (v := 1) hx hb dX6_decide_35 (by decide) ?_
      refine lv_iand hx hb dX6_decide_36 ?_
      refine lv_iconst (v := 1) hx hb dX6_decide_37 (by decide) ?_
      refine lv_icmp_ne (tgt := 113) hx hb dX6_decide_38 (by decide) (fun c38 => ?_) (fun c38 => ?_)
      · have h := o_f c38 h
        exact w_X6_decide_113 CX hK hsz (hK26 := ih) (hmK26 := m_X6_decide_26 N n) a_freer_bench_tree_cells freer_points freer_pointsPut freer_takenOut freer_bench_parts freer_bench_tree_rows freer_bench_tree_cells freer_bench_tree_cells_n freer_bench_starts freer_bench_looses freer_body_rows freer_body_cells freer_sum_numbers freer_rowsOfPoints freer_spans freer_bound copy_rows copy_cells y1 y2 _ _ _ h hP hD hS (lv_sub hl [0, 1, 2] rfl) hph
      · have h := o_t c38 h
        refine lv_aload_n hx hb dX6_decide_41 rfl (lv_at hl 0 rfl) ?_
        refine r_get F hK hP 0 1 rfl inW_X6 wm_584 rfl (by decide) rfl dX6_decide_42 ?_
        refine lv_aload_n hx hb dX6_decide_45 rfl (lv_at hl 0 rfl) ?_
        refine r_get F hK hP 0 4 rfl inW_X6 wm_587 rfl (by decide) rfl dX6_decide_46 ?_
        refine lv_iload_n hx hb dX6_decide_49 rfl (lv_at hl 2 rfl) ?_
        refine lv_aload_n hx hb dX6_decide_50 rfl (lv_at hl 0 rfl) ?_
        refine r_get F hK hP 0 5 rfl inW_X6 wm_588 rfl (by decide) rfl dX6_decide_51 ?_
        refine lv_iload_n hx hb dX6_decide_54 rfl (lv_at hl 2 rfl) ?_
        obtain ⟨hi55, h⟩ := o_ix h
        refine va_iald hx hb hK hP 18 0 rfl rfl hi55 dX6_decide_55 ?_
        refine lv_aload_n hx hb dX6_decide_56 rfl (lv_at hl 0 rfl) ?_
        refine r_get F hK hP 0 6 rfl inW_X6 wm_589 rfl (by decide) rfl dX6_decide_57 ?_
        refine lv_iload_n hx hb dX6_decide_60 rfl (lv_at hl 2 rfl) ?_
        obtain ⟨hi61, h⟩ := o_ix h
        refine va_iald hx hb hK hP 19 0 rfl rfl hi61 dX6_decide_61 ?_
        obtain ⟨z62, hz62, h⟩ := o_b h
        refine k_v (wn := (ws_X6_decide cI cJ cB a0 a_reader a_scribe a_spans a_found a_freer a_freer_bench a_freer_bench_tree a_freer_bench_tree_cells a_freer_bench_starts a_freer_bench_looses a_freer_body a_freer_body_cells a_freer_sum a_freer_sum_numbers a_freer_rowsOfPoints a_freer_spans a_freer_bound a_formula a_formula_cells a_copy a_copy_cells a_above a_below loose freer_points freer_pointsPut freer_takenOut z62.2.1 z62.2.2.1 z62.2.2.2.1 freer_bench_tree_cells_n z62.2.2.2.2.1 z62.2.2.2.2.2.1 freer_body_rows freer_body_cells freer_body_cells_n z62.2.2.2.2.2.2.1 z62.2.2.2.2.2.2.2.1 z62.2.2.2.2.2.2.2.2.1 z62.2.2.2.2.2.2.2.2.2 formula_rows formula_cells formula_cells_n copy_rows copy_cells copy_cells_n above below_)) (As := [.ref a_copy, .int y2, .int (above y2.toNatClampNeg), .int (below_ y2.toNatClampNeg)]) (rest := []) F hNw hK hP hD hS hA (c_X1_putValue l D cI cJ cB a_freer a_freer_body a_freer_bench a_freer_bench_tree a_freer_bench_tree_cells a_freer_bench_starts a_freer_bench_looses a_freer_sum a_freer_sum_numbers a_freer_rowsOfPoints a_freer_spans a_freer_bound a_copy a_copy_cells _ freer_points freer_pointsPut freer_takenOut freer_bench_parts freer_bench_tree_rows freer_bench_tree_cells freer_bench_tree_cells_n freer_bench_starts freer_bench_looses freer_sum_numbers freer_rowsOfPoints freer_spans freer_bound copy_rows copy_cells copy_cells_n y2 (above y2.toNatClampNeg) (below_ y2.toNatClampNeg) N hz62) wm_904 cv_X1_putValue [1, 2, 3, 4, 5, 6, 9, 10, 11, 12, 13, 16, 17] [0, 7, 8, 14, 15, 18, 19] [0, 7, 8, 9, 10, 11, 12, 1, 2, 13, 14, 15, 16, 17, 3, 4, 18, 19, 5, 6] (⟨rfl, rfl, rfl, by decide, rfl⟩ : Ix [1, 2, 3, 4, 5, 6, 9, 10, 11, 12, 13, 16, 17] [0, 7, 8, 14, 15, 18, 19] [0, 7, 8, 9, 10, 11, 12, 1, 2, 13, 14, 15, 16, 17, 3, 4, 18, 19, 5, 6] 20) rfl (hN_of 7 20 (by decide +kernel) rfl (by decide +kernel) rfl) rfl rfl rfl rfl ⟨rfl, rfl, Nat.le_of_ble_eq_true rfl, Nat.le_of_ble_eq_true rfl⟩ hl.1 rfl (Nat.le_of_ble_eq_true rfl) ⟨hq1, hq2⟩ dX6_decide_62 (fun H locs hP hD hS => ?_)
        refine lv_if_ne (tgt := 71) hx hb dX6_decide_65 (by decide) (fun c65 => ?_) (fun c65 => ?_)
        · have h := o_f c65 h
          refine lv_aload_n hx hb dX6_decide_71 rfl (lv_at hl 0 rfl) ?_
          refine r_get F hK hP 0 1 rfl inW_X6 wm_584 rfl (by decide) rfl dX6_decide_72 ?_
          refine r_getN F hNw hK hP 1 0 rfl inW_X1 nf_X6_103 rfl (by decide) rfl dX6_decide_75 ?_
          obtain ⟨z78, hz78, h⟩ := o_b h
          refine k_v (wn := (ws_X6_decide cI cJ cB a0 a_reader a_scribe a_spans a_found a_freer a_freer_bench a_freer_bench_tree a_freer_bench_tree_cells a_freer_bench_starts a_freer_bench_looses a_freer_body a_freer_body_cells a_freer_sum a_freer_sum_numbers a_freer_rowsOfPoints a_freer_spans a_freer_bound a_formula a_formula_cells a_copy a_copy_cells a_above a_below loose freer_points freer_pointsPut freer_takenOut z62.2.1 z62.2.2.1 z62.2.2.2.1 freer_bench_tree_cells_n z62.2.2.2.2.1 z62.2.2.2.2.2.1 freer_body_rows freer_body_cells freer_body_cells_n z62.2.2.2.2.2.2.1 z62.2.2.2.2.2.2.2.1 z62.2.2.2.2.2.2.2.2.1 z62.2.2.2.2.2.2.2.2.2 formula_rows formula_cells formula_cells_n copy_rows copy_cells copy_cells_n above below_)) (As := []) (rest := []) F hNw hK hP hD hS hA (c_X0_lastLoose l D cI cJ cB a_freer_bench a_freer_bench_tree a_freer_bench_starts a_freer_bench_looses _ z62.2.1 z62.2.2.2.2.2.1 N hz78) wm_815 cv_X0_lastLoose [2, 6] [0, 1, 3, 4, 5, 7, 8, 9, 10, 11, 12, 13, 14, 15, 16, 17, 18, 19] [0, 1, 18, 2, 3, 4, 19, 5, 6, 7, 8, 9, 10, 11, 12, 13, 14, 15, 16, 17] (⟨rfl, rfl, rfl, by decide, rfl⟩ : Ix [2, 6] [0, 1, 3, 4, 5, 7, 8, 9, 10, 11, 12, 13, 14, 15, 16, 17, 18, 19] [0, 1, 18, 2, 3, 4, 19, 5, 6, 7, 8, 9, 10, 11, 12, 13, 14, 15, 16, 17] 20) rfl (hN_of 18 20 (by decide +kernel) rfl (by decide +kernel) rfl) rfl rfl rfl rfl ⟨rfl, rfl, Nat.le_of_ble_eq_true rfl, Nat.le_of_ble_eq_true rfl⟩ hl.1 rfl (Nat.le_of_ble_eq_true rfl) ⟨hq1, hq2⟩ dX6_decide_78 (fun H locs hP hD hS => ?_)
          refine lv_istore_n (lv' := [(1, .int z78), (0, .ref a0), (2, .int y2)]) hx hb dX6_decide_81 rfl hl (by decide) rfl (fun ls hl => ?_)
          refine lv_aload_n hx hb dX6_decide_82 rfl (lv_at hl 1 rfl) ?_
          refine r_get F hK hP 0 4 rfl inW_X6 wm_587 rfl (by decide) rfl dX6_decide_83 ?_
          refine lv_aload_n hx hb dX6_decide_86 rfl (lv_at hl 1 rfl) ?_
          refine r_get F hK hP 0 1 rfl inW_X6 wm_584 rfl (by decide) rfl dX6_decide_87 ?_
          refine r_getN F hNw hK hP 1 0 rfl inW_X1 nf_X6_103 rfl (by decide) rfl dX6_decide_90 ?_
          refine r_getN F hNw hK hP 2 0 rfl inW_X0 nf_X6_147 rfl (by decide) rfl dX6_decide_93 ?_
          refine lv_iconst (v := 0) hx hb dX6_decide_96 (by decide) ?_
          refine lv_aload_n hx hb dX6_decide_97 rfl (lv_at hl 1 rfl) ?_
          refine r_get F hK hP 0 1 rfl inW_X6 wm_584 rfl (by decide) rfl dX6_decide_98 ?_
          refine r_getN F hNw hK hP 1 0 rfl inW_X1 nf_X6_103 rfl (by decide) rfl dX6_decide_101 ?_
          refine r_getN F hNw hK hP 2 0 rfl inW_X0 nf_X6_147 rfl (by decide) rfl dX6_decide_104 ?_
          refine r_getN F hNw hK hP 3 1 rfl inW_X5 nf_X6_104 rfl (by decide) rfl dX6_decide_107 ?_
          obtain ⟨z110, hz110, h⟩ := o_b h
          refine k_v (wn := (ws_X6_decide cI cJ cB a0 a_reader a_scribe a_spans a_found a_freer a_freer_bench a_freer_bench_tree a_freer_bench_tree_cells a_freer_bench_starts a_freer_bench_looses a_freer_body a_freer_body_cells a_freer_sum a_freer_sum_numbers a_freer_rowsOfPoints a_freer_spans a_freer_bound a_formula a_formula_cells a_copy a_copy_cells a_above a_below loose freer_points freer_pointsPut freer_takenOut z62.2.1 z62.2.2.1 z62.2.2.2.1 freer_bench_tree_cells_n z62.2.2.2.2.1 z62.2.2.2.2.2.1 freer_body_rows freer_body_cells freer_body_cells_n z62.2.2.2.2.2.2.1 z62.2.2.2.2.2.2.2.1 z62.2.2.2.2.2.2.2.2.1 z62.2.2.2.2.2.2.2.2.2 formula_rows formula_cells formula_cells_n z110.1 z110.2 copy_cells_n above below_)) (As := [.ref a_freer_bench_tree, .int 0, .int z62.2.2.1]) (rest := []) F hNw hK hP hD hS hA (c_X5_become l D cI cJ cB a_copy a_copy_cells a_freer_bench_tree a_freer_bench_tree_cells _ copy_rows copy_cells copy_cells_n z62.2.2.1 z62.2.2.2.1 freer_bench_tree_cells_n 0 z62.2.2.1 N hz110) wm_807 cv_X5_become [16, 17, 3, 4] [0, 1, 2, 5, 6, 7, 8, 9, 10, 11, 12, 13, 14, 15, 18, 19] [0, 1, 2, 18, 19, 3, 4, 5, 6, 7, 8, 9, 10, 11, 12, 13, 16, 17, 14, 15] (⟨rfl, rfl, rfl, by decide, rfl⟩ : Ix [16, 17, 3, 4] [0, 1, 2, 5, 6, 7, 8, 9, 10, 11, 12, 13, 14, 15, 18, 19] [0, 1, 2, 18, 19, 3, 4, 5, 6, 7, 8, 9, 10, 11, 12, 13, 16, 17, 14, 15] 20) rfl (hN_of 16 20 (by decide +kernel) rfl (by decide +kernel) rfl) rfl rfl rfl rfl ⟨rfl, rfl, Nat.le_of_ble_eq_true rfl, Nat.le_of_ble_eq_true rfl⟩ hl.1 rfl (Nat.le_of_ble_eq_true rfl) ⟨hq1, hq2⟩ dX6_decide_110 (fun H locs hP hD hS => ?_)
          exact w_X6_decide_113 CX hK hsz (hK26 := ih) (hmK26 := m_X6_decide_26 N n) a_freer_bench_tree_cells freer_points freer_pointsPut freer_takenOut z62.2.1 z62.2.2.1 z62.2.2.2.1 freer_bench_tree_cells_n z62.2.2.2.2.1 z62.2.2.2.2.2.1 freer_body_rows freer_body_cells z62.2.2.2.2.2.2.1 z62.2.2.2.2.2.2.2.1 z62.2.2.2.2.2.2.2.2.1 z62.2.2.2.2.2.2.2.2.2 z110.1 z110.2 z78 y2 _ _ _ h hP hD hS (lv_sub hl [1, 0, 2] rfl) hph
        · have h := o_t c65 h
          refine lv_bipush (v := (-2)) hx hb dX6_decide_68 (by decide) ?_
          obtain rfl := Option.some.inj h
          refine W.widen hq1 hq2 ?_
          exact z_ret (v := (-2)) F hr hlk rfl dX6_decide_70 a_freer_bench_tree_cells rfl hP hD hS
end G_X6_decide
set_option maxHeartbeats 4000000 in
set_option maxRecDepth 100000 in
theorem c_X6_decide (l : Launch) (D : va_G) (cI cJ cB : ClassId) (a0 a_reader a_scribe a_spans a_found a_freer a_freer_bench a_freer_bench_tree a_freer_bench_tree_cells a_freer_bench_starts a_freer_bench_looses a_freer_body a_freer_body_cells a_freer_sum a_freer_sum_numbers a_freer_rowsOfPoints a_freer_spans a_freer_bound a_formula a_formula_cells a_copy a_copy_cells a_above a_below : Nat) (sz : Nat) (loose : Int32) (freer_points : Int32) (freer_pointsPut : Int32) (freer_takenOut : Int32) (freer_bench_parts : Int32) (freer_bench_tree_rows : Int32) (freer_bench_tree_cells : Nat → Int32) (freer_bench_tree_cells_n : Nat) (freer_bench_starts : Nat → Int32) (freer_bench_looses : Nat → Int32) (freer_body_rows : Int32) (freer_body_cells : Nat → Int32) (freer_body_cells_n : Nat) (freer_sum_numbers : Nat → Int64) (freer_rowsOfPoints : Nat → Int32) (freer_spans : Nat → Int32) (freer_bound : Nat → Int32) (formula_rows : Int32) (formula_cells : Nat → Int32) (formula_cells_n : Nat) (copy_rows : Int32) (copy_cells : Nat → Int32) (copy_cells_n : Nat) (above : Nat → Int32) (below_ : Nat → Int32) (N : Nat) {z : Int32 × (Int32) × (Int32) × (Int32) × (Int32) × (Int32) × (Nat → Int32) × (Nat) × (Nat → Int32) × (Nat → Int32) × (Int32) × (Nat → Int32) × (Nat → Int64) × (Nat → Int32) × (Nat → Int32) × (Nat → Int32) × (Int32) × (Nat → Int32)} (h : f_X6_decide N loose freer_points freer_pointsPut freer_takenOut freer_bench_parts freer_bench_tree_rows freer_bench_tree_cells freer_bench_tree_cells_n freer_bench_starts freer_bench_looses freer_body_rows freer_body_cells freer_body_cells_n freer_sum_numbers freer_rowsOfPoints freer_spans freer_bound formula_rows formula_cells formula_cells_n copy_rows copy_cells copy_cells_n above below_ = some z) : ph z.2.2.2.2.2.2.2.1 ≤ ph freer_bench_tree_cells_n ∧ Mz l yX6_decide cX6_decide 3 (some .int) (rm_X6_decide (ph freer_bench_tree_cells_n - ph z.2.2.2.2.2.2.2.1)) D (ty0 cI cJ cB) [.ref a0] sz (ws_X6_decide cI cJ cB a0 a_reader a_scribe a_spans a_found a_freer a_freer_bench a_freer_bench_tree a_freer_bench_tree_cells a_freer_bench_starts a_freer_bench_looses a_freer_body a_freer_body_cells a_freer_sum a_freer_sum_numbers a_freer_rowsOfPoints a_freer_spans a_freer_bound a_formula a_formula_cells a_copy a_copy_cells a_above a_below loose freer_points freer_pointsPut freer_takenOut freer_bench_parts freer_bench_tree_rows freer_bench_tree_cells freer_bench_tree_cells_n freer_bench_starts freer_bench_looses freer_body_rows freer_body_cells freer_body_cells_n freer_sum_numbers freer_rowsOfPoints freer_spans freer_bound formula_rows formula_cells formula_cells_n copy_rows copy_cells copy_cells_n above below_) (fun _ => (some (.int z.1))) (fun q => (ws_X6_decide cI cJ cB a0 a_reader a_scribe a_spans a_found a_freer a_freer_bench a_freer_bench_tree q a_freer_bench_starts a_freer_bench_looses a_freer_body a_freer_body_cells a_freer_sum a_freer_sum_numbers a_freer_rowsOfPoints a_freer_spans a_freer_bound a_formula a_formula_cells a_copy a_copy_cells a_above a_below loose z.2.1 z.2.2.1 z.2.2.2.1 z.2.2.2.2.1 z.2.2.2.2.2.1 z.2.2.2.2.2.2.1 z.2.2.2.2.2.2.2.1 z.2.2.2.2.2.2.2.2.1 z.2.2.2.2.2.2.2.2.2.1 z.2.2.2.2.2.2.2.2.2.2.1 z.2.2.2.2.2.2.2.2.2.2.2.1 freer_body_cells_n z.2.2.2.2.2.2.2.2.2.2.2.2.1 z.2.2.2.2.2.2.2.2.2.2.2.2.2.1 z.2.2.2.2.2.2.2.2.2.2.2.2.2.2.1 z.2.2.2.2.2.2.2.2.2.2.2.2.2.2.2.1 formula_rows formula_cells formula_cells_n z.2.2.2.2.2.2.2.2.2.2.2.2.2.2.2.2.1 z.2.2.2.2.2.2.2.2.2.2.2.2.2.2.2.2.2 copy_cells_n above below_)) (ph freer_bench_tree_cells_n - ph z.2.2.2.2.2.2.2.1) (100000 * (ph freer_bench_tree_cells_n - ph z.2.2.2.2.2.2.2.1)) := by
  have hm : ph z.2.2.2.2.2.2.2.1 ≤ ph freer_bench_tree_cells_n := mo_X6_decide h
  refine ⟨hm, ?_⟩
  refine Mz.of (by decide) (Nat.le_of_ble_eq_true rfl) ?_
  intro p e s m below meth c CX hK hsz hP hD ls hl
  have CX : Cx p m c cX6_decide 3 s ([.ref a0] : List Value).toArray (Cond.code yX6_decide cX6_decide 3 (some .int)) RX6 meth (some .int) := CX
  obtain ⟨F, hr, hlk, hNw⟩ := id CX
  have hx := F.1
  have hb := F.2.1
  have hown := F.2.2.2.1
  have hl : lv_has ls 3 [(0, .ref a0)] := hl
  have hS : va_S (va_A (ws_X6_decide cI cJ cB a0 a_reader a_scribe a_spans a_found a_freer a_freer_bench a_freer_bench_tree a_freer_bench_tree_cells a_freer_bench_starts a_freer_bench_looses a_freer_body a_freer_body_cells a_freer_sum a_freer_sum_numbers a_freer_rowsOfPoints a_freer_spans a_freer_bound a_formula a_formula_cells a_copy a_copy_cells a_above a_below loose freer_points freer_pointsPut freer_takenOut freer_bench_parts freer_bench_tree_rows freer_bench_tree_cells freer_bench_tree_cells_n freer_bench_starts freer_bench_looses freer_body_rows freer_body_cells freer_body_cells_n freer_sum_numbers freer_rowsOfPoints freer_spans freer_bound formula_rows formula_cells formula_cells_n copy_rows copy_cells copy_cells_n above below_) sz) s.heap s.heap [] := va_S.rf
  have hA : ∀ q, s.heap.size ≤ q → va_A (ws_X6_decide cI cJ cB a0 a_reader a_scribe a_spans a_found a_freer a_freer_bench a_freer_bench_tree a_freer_bench_tree_cells a_freer_bench_starts a_freer_bench_looses a_freer_body a_freer_body_cells a_freer_sum a_freer_sum_numbers a_freer_rowsOfPoints a_freer_spans a_freer_bound a_formula a_formula_cells a_copy a_copy_cells a_above a_below loose freer_points freer_pointsPut freer_takenOut freer_bench_parts freer_bench_tree_rows freer_bench_tree_cells freer_bench_tree_cells_n freer_bench_starts freer_bench_looses freer_body_rows freer_body_cells freer_body_cells_n freer_sum_numbers freer_rowsOfPoints freer_spans freer_bound formula_rows formula_cells formula_cells_n copy_rows copy_cells copy_cells_n above below_) sz q := fun q hq => Or.inr (hsz ▸ hq)
  have hph : ph freer_bench_tree_cells_n ≤ ph freer_bench_tree_cells_n := Nat.le_refl _
  have hq1 : ph freer_bench_tree_cells_n - ph freer_bench_tree_cells_n ≤ ph freer_bench_tree_cells_n - ph z.2.2.2.2.2.2.2.1 := by omega
  have hq2 : 100000 * (ph freer_bench_tree_cells_n - ph freer_bench_tree_cells_n) ≤ 100000 * (ph freer_bench_tree_cells_n - ph z.2.2.2.2.2.2.2.1) := by omega
  refine W.widen (k := ph freer_bench_tree_cells_n - ph freer_bench_tree_cells_n) (n := 100000 * (ph freer_bench_tree_cells_n - ph freer_bench_tree_cells_n)) (by omega) (by omega) ?_
  unfold f_X6_decide at h
  refine lv_aload_n hx hb dX6_decide_0 rfl (lv_at hl 0 rfl) ?_
  refine r_get F hK hP 0 4 rfl inW_X6 wm_587 rfl (by decide) rfl dX6_decide_1 ?_
  refine lv_aload_n hx hb dX6_decide_4 rfl (lv_at hl 0 rfl) ?_
  refine r_get F hK hP 0 3 rfl inW_X6 wm_586 rfl (by decide) rfl dX6_decide_5 ?_
  refine lv_iconst (v := 0) hx hb dX6_decide_8 (by decide) ?_
  refine lv_aload_n hx hb dX6_decide_9 rfl (lv_at hl 0 rfl) ?_
  refine r_get F hK hP 0 3 rfl inW_X6 wm_586 rfl (by decide) rfl dX6_decide_10 ?_
  refine r_getN F hNw hK hP 14 1 rfl inW_X5 nf_X6_104 rfl (by decide) rfl dX6_decide_13 ?_
  obtain ⟨z16, hz16, h⟩ := o_b h
  refine k_v (wn := (ws_X6_decide cI cJ cB a0 a_reader a_scribe a_spans a_found a_freer a_freer_bench a_freer_bench_tree a_freer_bench_tree_cells a_freer_bench_starts a_freer_bench_looses a_freer_body a_freer_body_cells a_freer_sum a_freer_sum_numbers a_freer_rowsOfPoints a_freer_spans a_freer_bound a_formula a_formula_cells a_copy a_copy_cells a_above a_below loose freer_points freer_pointsPut freer_takenOut freer_bench_parts freer_bench_tree_rows freer_bench_tree_cells freer_bench_tree_cells_n freer_bench_starts freer_bench_looses freer_body_rows freer_body_cells freer_body_cells_n freer_sum_numbers freer_rowsOfPoints freer_spans freer_bound formula_rows formula_cells formula_cells_n z16.1 z16.2 copy_cells_n above below_)) (As := [.ref a_formula, .int 0, .int formula_rows]) (rest := []) F hNw hK hP hD hS hA (c_X5_become l D cI cJ cB a_copy a_copy_cells a_formula a_formula_cells _ copy_rows copy_cells copy_cells_n formula_rows formula_cells formula_cells_n 0 formula_rows N hz16) wm_807 cv_X5_become [16, 17, 14, 15] [0, 1, 2, 3, 4, 5, 6, 7, 8, 9, 10, 11, 12, 13, 18, 19] [0, 1, 2, 3, 4, 5, 6, 7, 8, 9, 10, 11, 12, 13, 18, 19, 16, 17, 14, 15] (⟨rfl, rfl, rfl, by decide, rfl⟩ : Ix [16, 17, 14, 15] [0, 1, 2, 3, 4, 5, 6, 7, 8, 9, 10, 11, 12, 13, 18, 19] [0, 1, 2, 3, 4, 5, 6, 7, 8, 9, 10, 11, 12, 13, 18, 19, 16, 17, 14, 15] 20) rfl (hN_of 16 20 (by decide +kernel) rfl (by decide +kernel) rfl) rfl rfl rfl rfl ⟨rfl, rfl, Nat.le_of_ble_eq_true rfl, Nat.le_of_ble_eq_true rfl⟩ hl.1 rfl (Nat.le_of_ble_eq_true rfl) ⟨hq1, hq2⟩ dX6_decide_16 (fun H locs hP hD hS => ?_)
  refine lv_aload_n hx hb dX6_decide_19 rfl (lv_at hl 0 rfl) ?_
  refine r_get F hK hP 0 9 rfl inW_X6 wm_592 rfl (by decide) rfl dX6_decide_20 ?_
  refine lv_istore_n (lv' := [(1, .int loose), (0, .ref a0)]) hx hb dX6_decide_23 rfl hl (by decide) rfl (fun ls hl => ?_)
  refine lv_iconst (v := 0) hx hb dX6_decide_24 (by decide) ?_
  refine lv_istore_n (lv' := [(2, .int 0), (1, .int loose), (0, .ref a0)]) hx hb dX6_decide_25 rfl hl (by decide) rfl (fun ls hl => ?_)
  exact w_X6_decide_26 CX hK hsz N a_freer_bench_tree_cells freer_points freer_pointsPut freer_takenOut freer_bench_parts freer_bench_tree_rows freer_bench_tree_cells freer_bench_tree_cells_n freer_bench_starts freer_bench_looses freer_body_rows freer_body_cells freer_sum_numbers freer_rowsOfPoints freer_spans freer_bound z16.1 z16.2 loose 0 _ _ _ h hP hD hS (lv_sub hl [2, 1, 0] rfl) hph
section G_X6_not
abbrev ws_X6_not (cI cJ cB : ClassId) (a0 a_reader a_freer a_scribe a_copy a_above a_below a_spans a_found a_formula a_formula_cells : Nat) (loose : Int32) (formula_rows : Int32) (formula_cells : Nat → Int32) (formula_cells_n : Nat) : va_W := [(a0, .inr (8, [.ref a_reader, .ref a_freer, .ref a_scribe, .ref a_formula, .ref a_copy, .ref a_above, .ref a_below, .ref a_spans, .ref a_found, .int loose])), (a_formula, .inr (7, [.ref a_formula_cells, .int formula_rows])), (a_formula_cells, .inl (cI, formula_cells_n, .inl formula_cells))]
abbrev rm_X6_not : Room := { frames := 2, cells := 0, slots := 0, locals := 50 }
def f_X6_not (N : Nat) (formula_rows : Int32) (formula_cells : Nat → Int32) (formula_cells_n : Nat) : Option (Int32 × (Nat → Int32)) := (f_X5_negate N formula_rows formula_cells formula_cells_n 0 formula_rows).bind (fun z12 => some (formula_rows, z12))
variable {p : Program} {l : Launch} {e : Env} {s : State} {m : MethodId} {below : List Frame} {meth : Method} {c : Code} {args : Array Value} {x0 : Cond} {D : va_G} {cI cJ cB : ClassId} {sz N : Nat} {ws0 : va_W} {a0 a_reader a_freer a_scribe a_copy a_above a_below a_spans a_found a_formula a_formula_cells : Nat} {loose : Int32} {formula_rows : Int32} {formula_cells_n : Nat} {z : Int32 × (Nat → Int32)}
end G_X6_not
set_option maxHeartbeats 4000000 in
set_option maxRecDepth 100000 in
theorem c_X6_not (l : Launch) (D : va_G) (cI cJ cB : ClassId) (a0 a_reader a_freer a_scribe a_copy a_above a_below a_spans a_found a_formula a_formula_cells : Nat) (sz : Nat) (loose : Int32) (formula_rows : Int32) (formula_cells : Nat → Int32) (formula_cells_n : Nat) (N : Nat) {z : Int32 × (Nat → Int32)} (h : f_X6_not N formula_rows formula_cells formula_cells_n = some z) : Mg l yX6_not cX6_not 1 (some .int) rm_X6_not D (ty0 cI cJ cB) [.ref a0] sz (ws_X6_not cI cJ cB a0 a_reader a_freer a_scribe a_copy a_above a_below a_spans a_found a_formula a_formula_cells loose formula_rows formula_cells formula_cells_n) (some (.int z.1)) (ws_X6_not cI cJ cB a0 a_reader a_freer a_scribe a_copy a_above a_below a_spans a_found a_formula a_formula_cells loose formula_rows z.2 formula_cells_n) := by
  refine Mg.of (by decide) (Nat.le_of_ble_eq_true rfl) ?_
  intro p e s m below meth c CX hK hsz hP hD ls hl
  have CX : Cx p m c cX6_not 1 s ([.ref a0] : List Value).toArray (Cond.code yX6_not cX6_not 1 (some .int)) RX6 meth (some .int) := CX
  obtain ⟨F, hr, hlk, hNw⟩ := id CX
  have hx := F.1
  have hb := F.2.1
  have hown := F.2.2.2.1
  have hl : lv_has ls 1 [(0, .ref a0)] := hl
  have hS : va_S (va_A (ws_X6_not cI cJ cB a0 a_reader a_freer a_scribe a_copy a_above a_below a_spans a_found a_formula a_formula_cells loose formula_rows formula_cells formula_cells_n) sz) s.heap s.heap [] := va_S.rf
  have hA : ∀ q, s.heap.size ≤ q → va_A (ws_X6_not cI cJ cB a0 a_reader a_freer a_scribe a_copy a_above a_below a_spans a_found a_formula a_formula_cells loose formula_rows formula_cells formula_cells_n) sz q := fun q hq => Or.inr (hsz ▸ hq)
  unfold f_X6_not at h
  refine lv_aload_n hx hb dX6_not_0 rfl (lv_at hl 0 rfl) ?_
  refine r_get F hK hP 0 3 rfl inW_X6 wm_586 rfl (by decide) rfl dX6_not_1 ?_
  refine lv_iconst (v := 0) hx hb dX6_not_4 (by decide) ?_
  refine lv_aload_n hx hb dX6_not_5 rfl (lv_at hl 0 rfl) ?_
  refine r_get F hK hP 0 3 rfl inW_X6 wm_586 rfl (by decide) rfl dX6_not_6 ?_
  refine r_getN F hNw hK hP 1 1 rfl inW_X5 nf_X6_104 rfl (by decide) rfl dX6_not_9 ?_
  obtain ⟨z12, hz12, h⟩ := o_b h
  refine k_v (wn := (ws_X6_not cI cJ cB a0 a_reader a_freer a_scribe a_copy a_above a_below a_spans a_found a_formula a_formula_cells loose formula_rows z12 formula_cells_n)) (As := [.int 0, .int formula_rows]) (rest := []) F hNw hK hP hD hS hA (c_X5_negate l D cI cJ cB a_formula a_formula_cells _ formula_rows formula_cells formula_cells_n 0 formula_rows N hz12) wm_926 cv_X5_negate [1, 2] [0] [0, 1, 2] (⟨rfl, rfl, rfl, by decide, rfl⟩ : Ix [1, 2] [0] [0, 1, 2] 3) rfl (hN_of 1 3 (by decide +kernel) rfl (by decide +kernel) rfl) rfl rfl rfl rfl ⟨rfl, rfl, by decide, by decide⟩ hl.1 rfl (Nat.le_of_ble_eq_true rfl) ⟨Nat.zero_le _, Nat.zero_le _⟩ dX6_not_12 (fun H locs hP hD hS => ?_)
  refine lv_aload_n hx hb dX6_not_15 rfl (lv_at hl 0 rfl) ?_
  refine r_get F hK hP 0 3 rfl inW_X6 wm_586 rfl (by decide) rfl dX6_not_16 ?_
  refine r_getN F hNw hK hP 1 1 rfl inW_X5 nf_X6_104 rfl (by decide) rfl dX6_not_19 ?_
  obtain rfl := Option.some.inj h
  exact r_ret (v := formula_rows) F hr hlk rfl dX6_not_22 hsz hP hD hS
section G_X6_write
abbrev ws_X6_write (cI cJ cB : ClassId) (a0 a_reader a_freer a_copy a_above a_below a_spans a_found a_scribe a_scribe_kept a_scribe_spans a_scribe_work a_formula a_formula_cells : Nat) (loose : Int32) (scribe_length : Int32) (scribe_works : Int32) (scribe_kept : Nat → Int32) (scribe_spans : Nat → Int32) (scribe_work : Nat → Int32) (formula_rows : Int32) (formula_cells : Nat → Int32) (formula_cells_n : Nat) : va_W := [(a0, .inr (8, [.ref a_reader, .ref a_freer, .ref a_scribe, .ref a_formula, .ref a_copy, .ref a_above, .ref a_below, .ref a_spans, .ref a_found, .int loose])), (a_scribe, .inr (5, [.ref a_scribe_kept, .ref a_scribe_spans, .ref a_scribe_work, .int scribe_length, .int scribe_works])), (a_scribe_kept, .inl (cB, 12000, .inl scribe_kept)), (a_scribe_spans, .inl (cI, 400, .inl scribe_spans)), (a_scribe_work, .inl (cI, 1600, .inl scribe_work)), (a_formula, .inr (7, [.ref a_formula_cells, .int formula_rows])), (a_formula_cells, .inl (cI, formula_cells_n, .inl formula_cells))]
abbrev rm_X6_write : Room := { frames := 5, cells := 0, slots := 0, locals := 117 }
def f_X6_write (N : Nat) (scribe_length : Int32) (scribe_works : Int32) (scribe_kept : Nat → Int32) (scribe_spans : Nat → Int32) (scribe_work : Nat → Int32) (formula_rows : Int32) (formula_cells : Nat → Int32) (formula_cells_n : Nat) : Option (Int32 × (Int32) × (Int32) × (Nat → Int32) × (Nat → Int32) × (Nat → Int32)) := (f_X3_put N scribe_length scribe_works scribe_kept scribe_spans scribe_work formula_rows formula_cells formula_cells_n).bind (fun z8 => some (z8.1, z8.1, z8.2.1, z8.2.2.1, z8.2.2.2.1, z8.2.2.2.2))
variable {p : Program} {l : Launch} {e : Env} {s : State} {m : MethodId} {below : List Frame} {meth : Method} {c : Code} {args : Array Value} {x0 : Cond} {D : va_G} {cI cJ cB : ClassId} {sz N : Nat} {ws0 : va_W} {a0 a_reader a_freer a_copy a_above a_below a_spans a_found a_scribe a_scribe_kept a_scribe_spans a_scribe_work a_formula a_formula_cells : Nat} {loose : Int32} {formula_rows : Int32} {formula_cells : Nat → Int32} {formula_cells_n : Nat} {z : Int32 × (Int32) × (Int32) × (Nat → Int32) × (Nat → Int32) × (Nat → Int32)}
end G_X6_write
set_option maxHeartbeats 4000000 in
set_option maxRecDepth 100000 in
theorem c_X6_write (l : Launch) (D : va_G) (cI cJ cB : ClassId) (a0 a_reader a_freer a_copy a_above a_below a_spans a_found a_scribe a_scribe_kept a_scribe_spans a_scribe_work a_formula a_formula_cells : Nat) (sz : Nat) (loose : Int32) (scribe_length : Int32) (scribe_works : Int32) (scribe_kept : Nat → Int32) (scribe_spans : Nat → Int32) (scribe_work : Nat → Int32) (formula_rows : Int32) (formula_cells : Nat → Int32) (formula_cells_n : Nat) (N : Nat) {z : Int32 × (Int32) × (Int32) × (Nat → Int32) × (Nat → Int32) × (Nat → Int32)} (h : f_X6_write N scribe_length scribe_works scribe_kept scribe_spans scribe_work formula_rows formula_cells formula_cells_n = some z) : Mg l yX6_write cX6_write 1 (some .int) rm_X6_write D (ty0 cI cJ cB) [.ref a0] sz (ws_X6_write cI cJ cB a0 a_reader a_freer a_copy a_above a_below a_spans a_found a_scribe a_scribe_kept a_scribe_spans a_scribe_work a_formula a_formula_cells loose scribe_length scribe_works scribe_kept scribe_spans scribe_work formula_rows formula_cells formula_cells_n) (some (.int z.1)) (ws_X6_write cI cJ cB a0 a_reader a_freer a_copy a_above a_below a_spans a_found a_scribe a_scribe_kept a_scribe_spans a_scribe_work a_formula a_formula_cells loose z.2.1 z.2.2.1 z.2.2.2.1 z.2.2.2.2.1 z.2.2.2.2.2 formula_rows formula_cells formula_cells_n) := by
  refine Mg.of (by decide) (Nat.le_of_ble_eq_true rfl) ?_
  intro p e s m below meth c CX hK hsz hP hD ls hl
  have CX : Cx p m c cX6_write 1 s ([.ref a0] : List Value).toArray (Cond.code yX6_write cX6_write 1 (some .int)) RX6 meth (some .int) := CX
  obtain ⟨F, hr, hlk, hNw⟩ := id CX
  have hx := F.1
  have hb := F.2.1
  have hown := F.2.2.2.1
  have hl : lv_has ls 1 [(0, .ref a0)] := hl
  have hS : va_S (va_A (ws_X6_write cI cJ cB a0 a_reader a_freer a_copy a_above a_below a_spans a_found a_scribe a_scribe_kept a_scribe_spans a_scribe_work a_formula a_formula_cells loose scribe_length scribe_works scribe_kept scribe_spans scribe_work formula_rows formula_cells formula_cells_n) sz) s.heap s.heap [] := va_S.rf
  have hA : ∀ q, s.heap.size ≤ q → va_A (ws_X6_write cI cJ cB a0 a_reader a_freer a_copy a_above a_below a_spans a_found a_scribe a_scribe_kept a_scribe_spans a_scribe_work a_formula a_formula_cells loose scribe_length scribe_works scribe_kept scribe_spans scribe_work formula_rows formula_cells formula_cells_n) sz q := fun q hq => Or.inr (hsz ▸ hq)
  unfold f_X6_write at h
  refine lv_aload_n hx hb dX6_write_0 rfl (lv_at hl 0 rfl) ?_
  refine r_get F hK hP 0 2 rfl inW_X6 wm_585 rfl (by decide) rfl dX6_write_1 ?_
  refine lv_aload_n hx hb dX6_write_4 rfl (lv_at hl 0 rfl) ?_
  refine r_get F hK hP 0 3 rfl inW_X6 wm_586 rfl (by decide) rfl dX6_write_5 ?_
  obtain ⟨z8, hz8, h⟩ := o_b h
  refine k_v (wn := (ws_X6_write cI cJ cB a0 a_reader a_freer a_copy a_above a_below a_spans a_found a_scribe a_scribe_kept a_scribe_spans a_scribe_work a_formula a_formula_cells loose z8.1 z8.2.1 z8.2.2.1 z8.2.2.2.1 z8.2.2.2.2 formula_rows formula_cells formula_cells_n)) (As := [.ref a_formula]) (rest := []) F hNw hK hP hD hS hA (c_X3_put l D cI cJ cB a_scribe a_scribe_kept a_scribe_spans a_scribe_work a_formula a_formula_cells _ scribe_length scribe_works scribe_kept scribe_spans scribe_work formula_rows formula_cells formula_cells_n N hz8) wm_931 cv_X3_put [1, 2, 3, 4, 5, 6] [0] [0, 1, 2, 3, 4, 5, 6] (⟨rfl, rfl, rfl, by decide, rfl⟩ : Ix [1, 2, 3, 4, 5, 6] [0] [0, 1, 2, 3, 4, 5, 6] 7) rfl (hN_of 1 7 (by decide +kernel) rfl (by decide +kernel) rfl) rfl rfl rfl rfl ⟨rfl, rfl, by decide, by decide⟩ hl.1 rfl (Nat.le_of_ble_eq_true rfl) ⟨Nat.zero_le _, Nat.zero_le _⟩ dX6_write_8 (fun H locs hP hD hS => ?_)
  refine lv_aload_n hx hb dX6_write_11 rfl (lv_at hl 0 rfl) ?_
  refine r_get F hK hP 0 2 rfl inW_X6 wm_585 rfl (by decide) rfl dX6_write_12 ?_
  refine r_getN F hNw hK hP 1 3 rfl inW_X3 nf_X6_172 rfl (by decide) rfl dX6_write_15 ?_
  obtain rfl := Option.some.inj h
  exact r_ret (v := z8.1) F hr hlk rfl dX6_write_18 hsz hP hD hS
section G_X6_out
abbrev ws_X6_out (cI cJ cB : ClassId) (a0 a_reader a_freer a_formula a_copy a_above a_below a_spans a_found a_scribe a_scribe_spans a_scribe_work a_scribe_kept : Nat) (loose : Int32) (scribe_length : Int32) (scribe_works : Int32) (scribe_kept : Nat → Int32) : va_W := [(a0, .inr (8, [.ref a_reader, .ref a_freer, .ref a_scribe, .ref a_formula, .ref a_copy, .ref a_above, .ref a_below, .ref a_spans, .ref a_found, .int loose])), (a_scribe, .inr (5, [.ref a_scribe_kept, .ref a_scribe_spans, .ref a_scribe_work, .int scribe_length, .int scribe_works])), (a_scribe_kept, .inl (cB, 12000, .inl scribe_kept))]
abbrev rm_X6_out : Room := { frames := 1, cells := 0, slots := 0, locals := 22 }
def f_X6_out_5 (N : Nat) : Nat → Int32 → (Nat → Int32) → Int32 → Int64 → Int32 → Option (Int64)
  | 0 => fun _ _ _ _ _ => none
  | n + 1 => fun scribe_length scribe_kept y1 y2 y4 => ifb (8 ≤ y4) (some y2) ((f_X3_letterAt N scribe_length scribe_kept (y1.toInt64 + y4.toInt64)).bind (fun z23 => f_X6_out_5 N n scribe_length scribe_kept y1 (y2 ||| (z23.toInt64 <<< ((8 * y4).toInt64 &&& 63))) (y4 + 1)))
def f_X6_out (N : Nat) (scribe_length : Int32) (scribe_kept : Nat → Int32) (x1 : Int32) : Option (Int64) := f_X6_out_5 N N scribe_length scribe_kept x1 0 0
variable {p : Program} {l : Launch} {e : Env} {s : State} {m : MethodId} {below : List Frame} {meth : Method} {c : Code} {args : Array Value} {x0 : Cond} {D : va_G} {cI cJ cB : ClassId} {sz N : Nat} {ws0 : va_W} {a0 a_reader a_freer a_formula a_copy a_above a_below a_spans a_found a_scribe a_scribe_spans a_scribe_work a_scribe_kept : Nat} {loose : Int32} {scribe_length : Int32} {scribe_works : Int32} {scribe_kept : Nat → Int32} {z : Int64}
set_option maxHeartbeats 4000000 in
set_option maxRecDepth 100000 in
theorem w_X6_out_5 (CX : Cx p m c cX6_out 5 s args x0 RX6 meth (some .long)) (hK : va_K D vwCl (ty0 cI cJ cB) s) (hsz : s.heap.size = sz) : ∀ (n : Nat), ∀ (y1 : Int32) (y2 : Int64) (y4 : Int32) (H : Heap) (locs : List Loc) (ls : Array Slot), f_X6_out_5 N n scribe_length scribe_kept y1 y2 y4 = some z → va_P D vwCl (ws_X6_out cI cJ cB a0 a_reader a_freer a_formula a_copy a_above a_below a_spans a_found a_scribe a_scribe_spans a_scribe_work a_scribe_kept loose scribe_length scribe_works scribe_kept) H → va_D (va_A ws0 sz) (ws_X6_out cI cJ cB a0 a_reader a_freer a_formula a_copy a_above a_below a_spans a_found a_scribe a_scribe_spans a_scribe_work a_scribe_kept loose scribe_length scribe_works scribe_kept) → va_S (va_A ws0 sz) s.heap H locs → lv_has ls 5 [(0, .ref a0), (1, .int y1), (2, .long y2), (4, .int y4)] → W p l e rm_X6_out s m args below meth c H locs 0 0 (MQ below (gQ D sz ws0 (ws_X6_out cI cJ cB a0 a_reader a_freer a_formula a_copy a_above a_below a_spans a_found a_scribe a_scribe_spans a_scribe_work a_scribe_kept loose scribe_length scribe_works scribe_kept) (some (.long z))) args s 0 0 (va_A ws0 sz)) (F0 m 5 ls []) := by
  obtain ⟨F, hr, hlk, hNw⟩ := id CX
  have hx := F.1
  have hb := F.2.1
  have hown := F.2.2.2.1
  have hA : ∀ q, s.heap.size ≤ q → va_A ws0 sz q := fun q hq => Or.inr (hsz ▸ hq)
  intro n
  induction n with
  | zero =>
    intro y1 y2 y4 H locs ls h
    cases h
  | succ n ih =>
    intro y1 y2 y4 H locs ls h hP hD hS hl
    unfold f_X6_out_5 at h
    refine lv_iload hx hb dX6_out_5 (lv_at hl 3 rfl) ?_
    refine lv_bipush (v := 8) hx hb dX6_out_7 (by decide) ?_
    refine lv_icmp_ge (tgt := 41) hx hb dX6_out_9 (by decide) (fun c9 => ?_) (fun c9 => ?_)
    · have h := o_t c9 h
      refine lv_lload_n hx hb dX6_out_41 rfl (lv_at hl 2 rfl) ?_
      obtain rfl := Option.some.inj h
      exact r_lret F hr hlk dX6_out_42 hsz hP hD hS
    · have h := o_f c9 h
      refine lv_lload_n hx hb dX6_out_12 rfl (lv_at hl 2 rfl) ?_
      refine lv_aload_n hx hb dX6_out_13 rfl (lv_at hl 0 rfl) ?_
      refine r_get F hK hP 0 2 rfl inW_X6 wm_585 rfl (by decide) rfl dX6_out_14 ?_
      refine lv_iload_n hx hb dX6_out_17 rfl (lv_at hl 1 rfl) ?_
      refine lv_i2l hx hb dX6_out_18 rfl ?_
      refine lv_iload hx hb dX6_out_19 (lv_at hl 3 rfl) ?_
      refine lv_i2l hx hb dX6_out_21 rfl ?_
      refine lv_ladd hx hb dX6_out_22 ?_
      obtain ⟨z23, hz23, h⟩ := o_b h
      refine k_v (wn := (ws_X6_out cI cJ cB a0 a_reader a_freer a_formula a_copy a_above a_below a_spans a_found a_scribe a_scribe_spans a_scribe_work a_scribe_kept loose scribe_length scribe_works scribe_kept)) (As := [.long (y1.toInt64 + y4.toInt64)]) (rest := [.long y2]) F hNw hK hP hD hS hA (c_X3_letterAt l D cI cJ cB a_scribe a_scribe_spans a_scribe_work a_scribe_kept _ scribe_length scribe_works scribe_kept (y1.toInt64 + y4.toInt64) N hz23) wm_968 cv_X3_letterAt [1, 2] [0] [0, 1, 2] (⟨rfl, rfl, rfl, by decide, rfl⟩ : Ix [1, 2] [0] [0, 1, 2] 3) rfl (hN_of 1 3 (by decide +kernel) rfl (by decide +kernel) rfl) rfl rfl rfl rfl ⟨rfl, rfl, by decide, by decide⟩ hl.1 rfl (Nat.le_of_ble_eq_true rfl) ⟨Nat.zero_le _, Nat.zero_le _⟩ dX6_out_23 (fun H locs hP hD hS => ?_)
      refine lv_i2l hx hb dX6_out_26 rfl ?_
      refine lv_bipush (v := 8) hx hb dX6_out_27 (by decide) ?_
      refine lv_iload hx hb dX6_out_29 (lv_at hl 3 rfl) ?_
      refine lv_imul hx hb dX6_out_31 ?_
      refine lv_lshl hx hb dX6_out_32 rfl ?_
      refine lv_lor hx hb dX6_out_33 ?_
      refine lv_lstore_n (lv' := [(2, .long (y2 ||| (z23.toInt64 <<< ((8 * y4).toInt64 &&& 63)))), (0, .ref a0), (1, .int y1), (4, .int y4)]) hx hb dX6_out_34 rfl hl (by decide) rfl (fun ls hl => ?_)
      refine lv_iinc (v := y4 + 1) (lv' := [(4, .int (y4 + 1)), (2, .long (y2 ||| (z23.toInt64 <<< ((8 * y4).toInt64 &&& 63)))), (0, .ref a0), (1, .int y1)]) hx hb dX6_out_35 hl (k := 3) rfl rfl (by decide) rfl (fun ls hl => ?_)
      refine lv_goto (tgt := 5) hx hb dX6_out_38 (by decide) ?_
      exact ih y1 (y2 ||| (z23.toInt64 <<< ((8 * y4).toInt64 &&& 63))) (y4 + 1) _ _ _ h hP hD hS (lv_sub hl [2, 3, 1, 0] rfl)
end G_X6_out
set_option maxHeartbeats 4000000 in
set_option maxRecDepth 100000 in
theorem c_X6_out (l : Launch) (D : va_G) (cI cJ cB : ClassId) (a0 a_reader a_freer a_formula a_copy a_above a_below a_spans a_found a_scribe a_scribe_spans a_scribe_work a_scribe_kept : Nat) (sz : Nat) (loose : Int32) (scribe_length : Int32) (scribe_works : Int32) (scribe_kept : Nat → Int32) (x1 : Int32) (N : Nat) {z : Int64} (h : f_X6_out N scribe_length scribe_kept x1 = some z) : Mg l yX6_out cX6_out 5 (some .long) rm_X6_out D (ty0 cI cJ cB) [.ref a0, .int x1] sz (ws_X6_out cI cJ cB a0 a_reader a_freer a_formula a_copy a_above a_below a_spans a_found a_scribe a_scribe_spans a_scribe_work a_scribe_kept loose scribe_length scribe_works scribe_kept) (some (.long z)) (ws_X6_out cI cJ cB a0 a_reader a_freer a_formula a_copy a_above a_below a_spans a_found a_scribe a_scribe_spans a_scribe_work a_scribe_kept loose scribe_length scribe_works scribe_kept) := by
  refine Mg.of (by decide) (Nat.le_of_ble_eq_true rfl) ?_
  intro p e s m below meth c CX hK hsz hP hD ls hl
  have CX : Cx p m c cX6_out 5 s ([.ref a0, .int x1] : List Value).toArray (Cond.code yX6_out cX6_out 5 (some .long)) RX6 meth (some .long) := CX
  obtain ⟨F, hr, hlk, hNw⟩ := id CX
  have hx := F.1
  have hb := F.2.1
  have hown := F.2.2.2.1
  have hl : lv_has ls 5 [(0, .ref a0), (1, .int x1)] := hl
  have hS : va_S (va_A (ws_X6_out cI cJ cB a0 a_reader a_freer a_formula a_copy a_above a_below a_spans a_found a_scribe a_scribe_spans a_scribe_work a_scribe_kept loose scribe_length scribe_works scribe_kept) sz) s.heap s.heap [] := va_S.rf
  have hA : ∀ q, s.heap.size ≤ q → va_A (ws_X6_out cI cJ cB a0 a_reader a_freer a_formula a_copy a_above a_below a_spans a_found a_scribe a_scribe_spans a_scribe_work a_scribe_kept loose scribe_length scribe_works scribe_kept) sz q := fun q hq => Or.inr (hsz ▸ hq)
  unfold f_X6_out at h
  refine lv_lconst (v := 0) hx hb dX6_out_0 (by decide) ?_
  refine lv_lstore_n (lv' := [(2, .long 0), (0, .ref a0), (1, .int x1)]) hx hb dX6_out_1 rfl hl (by decide) rfl (fun ls hl => ?_)
  refine lv_iconst (v := 0) hx hb dX6_out_2 (by decide) ?_
  refine lv_istore (lv' := [(4, .int 0), (2, .long 0), (0, .ref a0), (1, .int x1)]) hx hb dX6_out_3 hl (by decide) rfl (fun ls hl => ?_)
  exact w_X6_out_5 CX hK hsz N x1 0 0 _ _ _ h hP hD hS (lv_sub hl [2, 3, 1, 0] rfl)
section G_X6_pass
abbrev ws_X6_pass (cI cJ cB : ClassId) (a0 a_freer a_formula a_copy a_above a_below a_spans a_found a_reader a_reader_bench a_reader_sum a_reader_waiting a_reader_bytes a_scribe a_scribe_spans a_scribe_work a_scribe_kept : Nat) (loose : Int32) (reader_length : Int32) (reader_waits : Int32) (reader_at : Int32) (reader_opened : Int32) (reader_parens : Int32) (reader_great : Int32) (reader_bytes : Nat → Int32) (scribe_length : Int32) (scribe_works : Int32) (scribe_kept : Nat → Int32) : va_W := [(a0, .inr (8, [.ref a_reader, .ref a_freer, .ref a_scribe, .ref a_formula, .ref a_copy, .ref a_above, .ref a_below, .ref a_spans, .ref a_found, .int loose])), (a_reader, .inr (4, [.ref a_reader_bytes, .ref a_reader_bench, .ref a_reader_sum, .ref a_reader_waiting, .int reader_length, .int reader_waits, .int reader_at, .int reader_opened, .int reader_parens, .int reader_great])), (a_reader_bytes, .inl (cB, 240, .inl reader_bytes)), (a_scribe, .inr (5, [.ref a_scribe_kept, .ref a_scribe_spans, .ref a_scribe_work, .int scribe_length, .int scribe_works])), (a_scribe_kept, .inl (cB, 12000, .inl scribe_kept))]
abbrev rm_X6_pass : Room := { frames := 1, cells := 0, slots := 0, locals := 23 }
def f_X6_pass_24 (N : Nat) : Nat → Int32 → (Nat → Int32) → Int32 → (Nat → Int32) → Int32 → Int32 → Option (Int32 × (Int32) × (Nat → Int32))
  | 0 => fun _ _ _ _ _ _ => none
  | n + 1 => fun reader_length reader_bytes scribe_length scribe_kept y1 y2 => ifb (y1 ≤ y2) (some (reader_length, reader_length, reader_bytes)) ((f_X3_letterAt N scribe_length scribe_kept y2.toInt64).bind (fun z39 => (f_X2_take N reader_length reader_bytes z39.toInt8.toInt32).bind (fun z43 => f_X6_pass_24 N n z43.1 z43.2 scribe_length scribe_kept y1 (y2 + 1))))
def f_X6_pass (N : Nat) (reader_length : Int32) (reader_bytes : Nat → Int32) (scribe_length : Int32) (scribe_kept : Nat → Int32) : Option (Int32 × (Int32) × (Nat → Int32)) := f_X6_pass_24 N N 0 reader_bytes scribe_length scribe_kept (jmin scribe_length 240) 0
variable {p : Program} {l : Launch} {e : Env} {s : State} {m : MethodId} {below : List Frame} {meth : Method} {c : Code} {args : Array Value} {x0 : Cond} {D : va_G} {cI cJ cB : ClassId} {sz N : Nat} {ws0 : va_W} {a0 a_freer a_formula a_copy a_above a_below a_spans a_found a_reader a_reader_bench a_reader_sum a_reader_waiting a_reader_bytes a_scribe a_scribe_spans a_scribe_work a_scribe_kept : Nat} {loose : Int32} {reader_waits : Int32} {reader_at : Int32} {reader_opened : Int32} {reader_parens : Int32} {reader_great : Int32} {scribe_length : Int32} {scribe_works : Int32} {scribe_kept : Nat → Int32} {z : Int32 × (Int32) × (Nat → Int32)}
set_option maxHeartbeats 4000000 in
set_option maxRecDepth 100000 in
theorem w_X6_pass_24 (CX : Cx p m c cX6_pass 3 s args x0 RX6 meth (some .int)) (hK : va_K D vwCl (ty0 cI cJ cB) s) (hsz : s.heap.size = sz) : ∀ (n : Nat), ∀ (reader_length : Int32) (reader_bytes : Nat → Int32) (y1 : Int32) (y2 : Int32) (H : Heap) (locs : List Loc) (ls : Array Slot), f_X6_pass_24 N n reader_length reader_bytes scribe_length scribe_kept y1 y2 = some z → va_P D vwCl (ws_X6_pass cI cJ cB a0 a_freer a_formula a_copy a_above a_below a_spans a_found a_reader a_reader_bench a_reader_sum a_reader_waiting a_reader_bytes a_scribe a_scribe_spans a_scribe_work a_scribe_kept loose reader_length reader_waits reader_at reader_opened reader_parens reader_great reader_bytes scribe_length scribe_works scribe_kept) H → va_D (va_A ws0 sz) (ws_X6_pass cI cJ cB a0 a_freer a_formula a_copy a_above a_below a_spans a_found a_reader a_reader_bench a_reader_sum a_reader_waiting a_reader_bytes a_scribe a_scribe_spans a_scribe_work a_scribe_kept loose reader_length reader_waits reader_at reader_opened reader_parens reader_great reader_bytes scribe_length scribe_works scribe_kept) → va_S (va_A ws0 sz) s.heap H locs → lv_has ls 3 [(0, .ref a0), (1, .int y1), (2, .int y2)] → W p l e rm_X6_pass s m args below meth c H locs 0 0 (MQ below (gQ D sz ws0 (ws_X6_pass cI cJ cB a0 a_freer a_formula a_copy a_above a_below a_spans a_found a_reader a_reader_bench a_reader_sum a_reader_waiting a_reader_bytes a_scribe a_scribe_spans a_scribe_work a_scribe_kept loose z.2.1 reader_waits reader_at reader_opened reader_parens reader_great z.2.2 scribe_length scribe_works scribe_kept) (some (.int z.1))) args s 0 0 (va_A ws0 sz)) (F0 m 24 ls []) := by
  obtain ⟨F, hr, hlk, hNw⟩ := id CX
  have hx := F.1
  have hb := F.2.1
  have hown := F.2.2.2.1
  have hA : ∀ q, s.heap.size ≤ q → va_A ws0 sz q := fun q hq => Or.inr (hsz ▸ hq)
  intro n
  induction n with
  | zero =>
    intro reader_length reader_bytes y1 y2 H locs ls h
    cases h
  | succ n ih =>
    intro reader_length reader_bytes y1 y2 H locs ls h hP hD hS hl
    unfold f_X6_pass_24 at h
    refine lv_iload_n hx hb dX6_pass_24 rfl (lv_at hl 2 rfl) ?_
    refine lv_iload_n hx hb dX6_pass_25 rfl (lv_at hl 1 rfl) ?_
    refine lv_icmp_ge (tgt := 52) hx hb dX6_pass_26 (by decide) (fun c26 => ?_) (fun c26 => ?_)
    · have h := o_t c26 h
      refine lv_aload_n hx hb dX6_pass_52 rfl (lv_at hl 0 rfl) ?_
      refine r_get F hK hP 0 0 rfl inW_X6 wm_583 rfl (by decide) rfl dX6_pass_53 ?_
      refine r_getN F hNw hK hP 1 4 rfl inW_X2 nf_X6_71 rfl (by decide) rfl dX6_pass_56 ?_
      obtain rfl := Option.some.inj h
      exact r_ret (v := reader_length) F hr hlk rfl dX6_pass_59 hsz hP hD hS
    · have h := o_f c26 h
      refine lv_aload_n hx hb dX6_pass_29 rfl (lv_at hl 0 rfl) ?_
      refine r_get F hK hP 0 0 rfl inW_X6 wm_583 rfl (by decide) rfl dX6_pass_30 ?_
      refine lv_aload_n hx hb dX6_pass_33 rfl (lv_at hl 0 rfl) ?_
      refine r_get F hK hP 0 2 rfl inW_X6 wm_585 rfl (by decide) rfl dX6_pass_34 ?_
      refine lv_iload_n hx hb dX6_pass_37 rfl (lv_at hl 2 rfl) ?_
      refine lv_i2l hx hb dX6_pass_38 rfl ?_
      obtain ⟨z39, hz39, h⟩ := o_b h
      refine k_v (wn := (ws_X6_pass cI cJ cB a0 a_freer a_formula a_copy a_above a_below a_spans a_found a_reader a_reader_bench a_reader_sum a_reader_waiting a_reader_bytes a_scribe a_scribe_spans a_scribe_work a_scribe_kept loose reader_length reader_waits reader_at reader_opened reader_parens reader_great reader_bytes scribe_length scribe_works scribe_kept)) (As := [.long y2.toInt64]) (rest := [.ref a_reader]) F hNw hK hP hD hS hA (c_X3_letterAt l D cI cJ cB a_scribe a_scribe_spans a_scribe_work a_scribe_kept _ scribe_length scribe_works scribe_kept y2.toInt64 N hz39) wm_968 cv_X3_letterAt [3, 4] [0, 1, 2] [0, 1, 2, 3, 4] (⟨rfl, rfl, rfl, by decide, rfl⟩ : Ix [3, 4] [0, 1, 2] [0, 1, 2, 3, 4] 5) rfl (hN_of 3 5 (by decide +kernel) rfl (by decide +kernel) rfl) rfl rfl rfl rfl ⟨rfl, rfl, by decide, by decide⟩ hl.1 rfl (Nat.le_of_ble_eq_true rfl) ⟨Nat.zero_le _, Nat.zero_le _⟩ dX6_pass_39 (fun H locs hP hD hS => ?_)
      refine lv_i2b hx hb dX6_pass_42 rfl ?_
      obtain ⟨z43, hz43, h⟩ := o_b h
      refine k_v (wn := (ws_X6_pass cI cJ cB a0 a_freer a_formula a_copy a_above a_below a_spans a_found a_reader a_reader_bench a_reader_sum a_reader_waiting a_reader_bytes a_scribe a_scribe_spans a_scribe_work a_scribe_kept loose z43.1 reader_waits reader_at reader_opened reader_parens reader_great z43.2 scribe_length scribe_works scribe_kept)) (As := [.int z39.toInt8.toInt32]) (rest := []) F hNw hK hP hD hS hA (c_X2_take l D cI cJ cB a_reader a_reader_bench a_reader_sum a_reader_waiting a_reader_bytes _ reader_length reader_waits reader_at reader_opened reader_parens reader_great reader_bytes z39.toInt8.toInt32 N hz43) wm_978 cv_X2_take [1, 2] [0, 3, 4] [0, 3, 4, 1, 2] (⟨rfl, rfl, rfl, by decide, rfl⟩ : Ix [1, 2] [0, 3, 4] [0, 3, 4, 1, 2] 5) rfl (hN_of 3 5 (by decide +kernel) rfl (by decide +kernel) rfl) rfl rfl rfl rfl ⟨rfl, rfl, by decide, by decide⟩ hl.1 rfl (Nat.le_of_ble_eq_true rfl) ⟨Nat.zero_le _, Nat.zero_le _⟩ dX6_pass_43 (fun H locs hP hD hS => ?_)
      refine lv_iinc (v := y2 + 1) (lv' := [(2, .int (y2 + 1)), (0, .ref a0), (1, .int y1)]) hx hb dX6_pass_46 hl (k := 2) rfl rfl (by decide) rfl (fun ls hl => ?_)
      refine lv_goto (tgt := 24) hx hb dX6_pass_49 (by decide) ?_
      exact ih z43.1 z43.2 y1 (y2 + 1) _ _ _ h hP hD hS (lv_sub hl [1, 2, 0] rfl)
end G_X6_pass
set_option maxHeartbeats 4000000 in
set_option maxRecDepth 100000 in
theorem c_X6_pass (l : Launch) (D : va_G) (cI cJ cB : ClassId) (a0 a_freer a_formula a_copy a_above a_below a_spans a_found a_reader a_reader_bench a_reader_sum a_reader_waiting a_reader_bytes a_scribe a_scribe_spans a_scribe_work a_scribe_kept : Nat) (sz : Nat) (loose : Int32) (reader_length : Int32) (reader_waits : Int32) (reader_at : Int32) (reader_opened : Int32) (reader_parens : Int32) (reader_great : Int32) (reader_bytes : Nat → Int32) (scribe_length : Int32) (scribe_works : Int32) (scribe_kept : Nat → Int32) (N : Nat) {z : Int32 × (Int32) × (Nat → Int32)} (h : f_X6_pass N reader_length reader_bytes scribe_length scribe_kept = some z) : Mg l yX6_pass cX6_pass 3 (some .int) rm_X6_pass D (ty0 cI cJ cB) [.ref a0] sz (ws_X6_pass cI cJ cB a0 a_freer a_formula a_copy a_above a_below a_spans a_found a_reader a_reader_bench a_reader_sum a_reader_waiting a_reader_bytes a_scribe a_scribe_spans a_scribe_work a_scribe_kept loose reader_length reader_waits reader_at reader_opened reader_parens reader_great reader_bytes scribe_length scribe_works scribe_kept) (some (.int z.1)) (ws_X6_pass cI cJ cB a0 a_freer a_formula a_copy a_above a_below a_spans a_found a_reader a_reader_bench a_reader_sum a_reader_waiting a_reader_bytes a_scribe a_scribe_spans a_scribe_work a_scribe_kept loose z.2.1 reader_waits reader_at reader_opened reader_parens reader_great z.2.2 scribe_length scribe_works scribe_kept) := by
  refine Mg.of (by decide) (Nat.le_of_ble_eq_true rfl) ?_
  intro p e s m below meth c CX hK hsz hP hD ls hl
  have CX : Cx p m c cX6_pass 3 s ([.ref a0] : List Value).toArray (Cond.code yX6_pass cX6_pass 3 (some .int)) RX6 meth (some .int) := CX
  obtain ⟨F, hr, hlk, hNw⟩ := id CX
  have hx := F.1
  have hb := F.2.1
  have hown := F.2.2.2.1
  have hl : lv_has ls 3 [(0, .ref a0)] := hl
  have hS : va_S (va_A (ws_X6_pass cI cJ cB a0 a_freer a_formula a_copy a_above a_below a_spans a_found a_reader a_reader_bench a_reader_sum a_reader_waiting a_reader_bytes a_scribe a_scribe_spans a_scribe_work a_scribe_kept loose reader_length reader_waits reader_at reader_opened reader_parens reader_great reader_bytes scribe_length scribe_works scribe_kept) sz) s.heap s.heap [] := va_S.rf
  have hA : ∀ q, s.heap.size ≤ q → va_A (ws_X6_pass cI cJ cB a0 a_freer a_formula a_copy a_above a_below a_spans a_found a_reader a_reader_bench a_reader_sum a_reader_waiting a_reader_bytes a_scribe a_scribe_spans a_scribe_work a_scribe_kept loose reader_length reader_waits reader_at reader_opened reader_parens reader_great reader_bytes scribe_length scribe_works scribe_kept) sz q := fun q hq => Or.inr (hsz ▸ hq)
  unfold f_X6_pass at h
  refine lv_aload_n hx hb dX6_pass_0 rfl (lv_at hl 0 rfl) ?_
  refine r_get F hK hP 0 2 rfl inW_X6 wm_585 rfl (by decide) rfl dX6_pass_1 ?_
  refine r_getN F hNw hK hP 3 3 rfl inW_X3 nf_X6_172 rfl (by decide) rfl dX6_pass_4 ?_
  refine lv_sipush (v := 240) hx hb dX6_pass_7 (by decide) ?_
  refine va_mmin hx hb (F.2.2.1.trans hl.1.symm) hown (F.2.2.2.2 _ (q_in wm_977)) (F.2.2.2.2 _ (q_in wm_391)) (F.2.2.2.2 _ (q_in wm_75)) (F.2.2.2.2 _ (q_in wm_392)) (Nat.le_of_ble_eq_true rfl) (Nat.le_of_ble_eq_true rfl) (Nat.zero_le _) (Nat.zero_le _) dX6_pass_10 ?_
  refine lv_istore_n (lv' := [(1, .int (jmin scribe_length 240)), (0, .ref a0)]) hx hb dX6_pass_13 rfl hl (by decide) rfl (fun ls hl => ?_)
  refine lv_aload_n hx hb dX6_pass_14 rfl (lv_at hl 1 rfl) ?_
  refine r_get F hK hP 0 0 rfl inW_X6 wm_583 rfl (by decide) rfl dX6_pass_15 ?_
  refine lv_iconst (v := 0) hx hb dX6_pass_18 (by decide) ?_
  refine r_putN (wn := (ws_X6_pass cI cJ cB a0 a_freer a_formula a_copy a_above a_below a_spans a_found a_reader a_reader_bench a_reader_sum a_reader_waiting a_reader_bytes a_scribe a_scribe_spans a_scribe_work a_scribe_kept loose 0 reader_waits reader_at reader_opened reader_parens reader_great reader_bytes scribe_length scribe_works scribe_kept)) F hNw hK hP hD hS 1 4 rfl inW_X2 nf_X6_71 tyX2_ok nmX2 rfl rfl (by decide) rfl rfl (Nat.le_of_ble_eq_true rfl) rfl dX6_pass_19 (fun H locs hP hD hS => ?_)
  refine lv_iconst (v := 0) hx hb dX6_pass_22 (by decide) ?_
  refine lv_istore_n (lv' := [(2, .int 0), (1, .int (jmin scribe_length 240)), (0, .ref a0)]) hx hb dX6_pass_23 rfl hl (by decide) rfl (fun ls hl => ?_)
  exact w_X6_pass_24 CX hK hsz N 0 reader_bytes (jmin scribe_length 240) 0 _ _ _ h hP hD hS (lv_sub hl [2, 1, 0] rfl)
section G_X6_become
abbrev ws_X6_become (cI cJ cB : ClassId) (a0 a_reader a_freer a_scribe a_copy a_above a_below a_spans a_found a_formula a_formula_cells a_p1 a_p1_starts a_p1_tree a_p1_tree_cells a_p1_looses : Nat) (loose : Int32) (formula_rows : Int32) (formula_cells : Nat → Int32) (formula_cells_n : Nat) (p1_parts : Int32) (p1_tree_rows : Int32) (p1_tree_cells : Nat → Int32) (p1_tree_cells_n : Nat) (p1_looses : Nat → Int32) : va_W := [(a0, .inr (8, [.ref a_reader, .ref a_freer, .ref a_scribe, .ref a_formula, .ref a_copy, .ref a_above, .ref a_below, .ref a_spans, .ref a_found, .int loose])), (a_formula, .inr (7, [.ref a_formula_cells, .int formula_rows])), (a_formula_cells, .inl (cI, formula_cells_n, .inl formula_cells)), (a_p1, .inr (2, [.ref a_p1_tree, .ref a_p1_starts, .ref a_p1_looses, .int p1_parts])), (a_p1_tree, .inr (7, [.ref a_p1_tree_cells, .int p1_tree_rows])), (a_p1_tree_cells, .inl (cI, p1_tree_cells_n, .inl p1_tree_cells)), (a_p1_looses, .inl (cI, 402, .inl p1_looses))]
abbrev rm_X6_become : Room := { frames := 3, cells := 0, slots := 0, locals := 87 }
def f_X6_become (N : Nat) (loose : Int32) (formula_rows : Int32) (formula_cells : Nat → Int32) (formula_cells_n : Nat) (p1_parts : Int32) (p1_tree_rows : Int32) (p1_tree_cells : Nat → Int32) (p1_tree_cells_n : Nat) (p1_looses : Nat → Int32) : Option ((Int32) × (Int32) × (Nat → Int32)) := (f_X5_become N formula_rows formula_cells formula_cells_n p1_tree_rows p1_tree_cells p1_tree_cells_n 0 p1_tree_rows).bind (fun z16 => (f_X0_lastLoose N p1_parts p1_looses).bind (fun z21 => some (z21, z16.1, z16.2)))
variable {p : Program} {l : Launch} {e : Env} {s : State} {m : MethodId} {below : List Frame} {meth : Method} {c : Code} {args : Array Value} {x0 : Cond} {D : va_G} {cI cJ cB : ClassId} {sz N : Nat} {ws0 : va_W} {a0 a_reader a_freer a_scribe a_copy a_above a_below a_spans a_found a_formula a_formula_cells a_p1 a_p1_starts a_p1_tree a_p1_tree_cells a_p1_looses : Nat} {formula_cells_n : Nat} {p1_parts : Int32} {p1_tree_rows : Int32} {p1_tree_cells : Nat → Int32} {p1_tree_cells_n : Nat} {p1_looses : Nat → Int32} {z : (Int32) × (Int32) × (Nat → Int32)}
end G_X6_become
set_option maxHeartbeats 4000000 in
set_option maxRecDepth 100000 in
theorem c_X6_become (l : Launch) (D : va_G) (cI cJ cB : ClassId) (a0 a_reader a_freer a_scribe a_copy a_above a_below a_spans a_found a_formula a_formula_cells a_p1 a_p1_starts a_p1_tree a_p1_tree_cells a_p1_looses : Nat) (sz : Nat) (loose : Int32) (formula_rows : Int32) (formula_cells : Nat → Int32) (formula_cells_n : Nat) (p1_parts : Int32) (p1_tree_rows : Int32) (p1_tree_cells : Nat → Int32) (p1_tree_cells_n : Nat) (p1_looses : Nat → Int32) (N : Nat) {z : (Int32) × (Int32) × (Nat → Int32)} (h : f_X6_become N loose formula_rows formula_cells formula_cells_n p1_parts p1_tree_rows p1_tree_cells p1_tree_cells_n p1_looses = some z) : Mg l yX6_become cX6_become 2 none rm_X6_become D (ty0 cI cJ cB) [.ref a0, .ref a_p1] sz (ws_X6_become cI cJ cB a0 a_reader a_freer a_scribe a_copy a_above a_below a_spans a_found a_formula a_formula_cells a_p1 a_p1_starts a_p1_tree a_p1_tree_cells a_p1_looses loose formula_rows formula_cells formula_cells_n p1_parts p1_tree_rows p1_tree_cells p1_tree_cells_n p1_looses) none (ws_X6_become cI cJ cB a0 a_reader a_freer a_scribe a_copy a_above a_below a_spans a_found a_formula a_formula_cells a_p1 a_p1_starts a_p1_tree a_p1_tree_cells a_p1_looses z.1 z.2.1 z.2.2 formula_cells_n p1_parts p1_tree_rows p1_tree_cells p1_tree_cells_n p1_looses) := by
  refine Mg.of (by decide) (Nat.le_of_ble_eq_true rfl) ?_
  intro p e s m below meth c CX hK hsz hP hD ls hl
  have CX : Cx p m c cX6_become 2 s ([.ref a0, .ref a_p1] : List Value).toArray (Cond.code yX6_become cX6_become 2 none) RX6 meth none := CX
  obtain ⟨F, hr, hlk, hNw⟩ := id CX
  have hx := F.1
  have hb := F.2.1
  have hown := F.2.2.2.1
  have hl : lv_has ls 2 [(0, .ref a0), (1, .ref a_p1)] := hl
  have hS : va_S (va_A (ws_X6_become cI cJ cB a0 a_reader a_freer a_scribe a_copy a_above a_below a_spans a_found a_formula a_formula_cells a_p1 a_p1_starts a_p1_tree a_p1_tree_cells a_p1_looses loose formula_rows formula_cells formula_cells_n p1_parts p1_tree_rows p1_tree_cells p1_tree_cells_n p1_looses) sz) s.heap s.heap [] := va_S.rf
  have hA : ∀ q, s.heap.size ≤ q → va_A (ws_X6_become cI cJ cB a0 a_reader a_freer a_scribe a_copy a_above a_below a_spans a_found a_formula a_formula_cells a_p1 a_p1_starts a_p1_tree a_p1_tree_cells a_p1_looses loose formula_rows formula_cells formula_cells_n p1_parts p1_tree_rows p1_tree_cells p1_tree_cells_n p1_looses) sz q := fun q hq => Or.inr (hsz ▸ hq)
  unfold f_X6_become at h
  refine lv_aload_n hx hb dX6_become_0 rfl (lv_at hl 0 rfl) ?_
  refine r_get F hK hP 0 3 rfl inW_X6 wm_586 rfl (by decide) rfl dX6_become_1 ?_
  refine lv_aload_n hx hb dX6_become_4 rfl (lv_at hl 1 rfl) ?_
  refine r_getN F hNw hK hP 3 0 rfl inW_X0 nf_X6_147 rfl (by decide) rfl dX6_become_5 ?_
  refine lv_iconst (v := 0) hx hb dX6_become_8 (by decide) ?_
  refine lv_aload_n hx hb dX6_become_9 rfl (lv_at hl 1 rfl) ?_
  refine r_getN F hNw hK hP 3 0 rfl inW_X0 nf_X6_147 rfl (by decide) rfl dX6_become_10 ?_
  refine r_getN F hNw hK hP 4 1 rfl inW_X5 nf_X6_104 rfl (by decide) rfl dX6_become_13 ?_
  obtain ⟨z16, hz16, h⟩ := o_b h
  refine k_v (wn := (ws_X6_become cI cJ cB a0 a_reader a_freer a_scribe a_copy a_above a_below a_spans a_found a_formula a_formula_cells a_p1 a_p1_starts a_p1_tree a_p1_tree_cells a_p1_looses loose z16.1 z16.2 formula_cells_n p1_parts p1_tree_rows p1_tree_cells p1_tree_cells_n p1_looses)) (As := [.ref a_p1_tree, .int 0, .int p1_tree_rows]) (rest := []) F hNw hK hP hD hS hA (c_X5_become l D cI cJ cB a_formula a_formula_cells a_p1_tree a_p1_tree_cells _ formula_rows formula_cells formula_cells_n p1_tree_rows p1_tree_cells p1_tree_cells_n 0 p1_tree_rows N hz16) wm_807 cv_X5_become [1, 2, 4, 5] [0, 3, 6] [0, 3, 4, 1, 5, 6, 2] (⟨rfl, rfl, rfl, by decide, rfl⟩ : Ix [1, 2, 4, 5] [0, 3, 6] [0, 3, 4, 1, 5, 6, 2] 7) rfl (hN_of 3 7 (by decide +kernel) rfl (by decide +kernel) rfl) rfl rfl rfl rfl ⟨rfl, rfl, by decide, by decide⟩ hl.1 rfl (Nat.le_of_ble_eq_true rfl) ⟨Nat.zero_le _, Nat.zero_le _⟩ dX6_become_16 (fun H locs hP hD hS => ?_)
  refine lv_aload_n hx hb dX6_become_19 rfl (lv_at hl 0 rfl) ?_
  refine lv_aload_n hx hb dX6_become_20 rfl (lv_at hl 1 rfl) ?_
  obtain ⟨z21, hz21, h⟩ := o_b h
  refine k_v (wn := (ws_X6_become cI cJ cB a0 a_reader a_freer a_scribe a_copy a_above a_below a_spans a_found a_formula a_formula_cells a_p1 a_p1_starts a_p1_tree a_p1_tree_cells a_p1_looses loose z16.1 z16.2 formula_cells_n p1_parts p1_tree_rows p1_tree_cells p1_tree_cells_n p1_looses)) (As := []) (rest := [.ref a0]) F hNw hK hP hD hS hA (c_X0_lastLoose l D cI cJ cB a_p1 a_p1_tree a_p1_starts a_p1_looses _ p1_parts p1_looses N hz21) wm_815 cv_X0_lastLoose [3, 6] [0, 1, 2, 4, 5] [0, 1, 2, 5, 3, 4, 6] (⟨rfl, rfl, rfl, by decide, rfl⟩ : Ix [3, 6] [0, 1, 2, 4, 5] [0, 1, 2, 5, 3, 4, 6] 7) rfl (hN_of 5 7 (by decide +kernel) rfl (by decide +kernel) rfl) rfl rfl rfl rfl ⟨rfl, rfl, by decide, by decide⟩ hl.1 rfl (Nat.le_of_ble_eq_true rfl) ⟨Nat.zero_le _, Nat.zero_le _⟩ dX6_become_21 (fun H locs hP hD hS => ?_)
  refine r_put (wn := (ws_X6_become cI cJ cB a0 a_reader a_freer a_scribe a_copy a_above a_below a_spans a_found a_formula a_formula_cells a_p1 a_p1_starts a_p1_tree a_p1_tree_cells a_p1_looses z21 z16.1 z16.2 formula_cells_n p1_parts p1_tree_rows p1_tree_cells p1_tree_cells_n p1_looses)) F hK hP hD hS 0 9 rfl inW_X6 wm_592 tyX6_ok nmX6 rfl rfl (by decide) rfl rfl (Nat.le_of_ble_eq_true rfl) rfl dX6_become_24 (fun H locs hP hD hS => ?_)
  obtain rfl := Option.some.inj h
  exact r_vret F hr hlk dX6_become_27 hsz hP hD hS
section G_X6_sumWithValues
abbrev ws_X6_sumWithValues (cI cJ cB : ClassId) (a0 a_reader a_freer a_scribe a_copy a_spans a_found a_formula a_formula_cells a_above a_below : Nat) (loose : Int32) (formula_rows : Int32) (formula_cells : Nat → Int32) (formula_cells_n : Nat) (above : Nat → Int32) (below_ : Nat → Int32) : va_W := [(a0, .inr (8, [.ref a_reader, .ref a_freer, .ref a_scribe, .ref a_formula, .ref a_copy, .ref a_above, .ref a_below, .ref a_spans, .ref a_found, .int loose])), (a_formula, .inr (7, [.ref a_formula_cells, .int formula_rows])), (a_formula_cells, .inl (cI, formula_cells_n, .inl formula_cells)), (a_above, .inl (cI, 8, .inl above)), (a_below, .inl (cI, 8, .inl below_))]
abbrev rm_X6_sumWithValues : Room := { frames := 1, cells := 0, slots := 0, locals := 23 }
def f_X6_sumWithValues_19 (N : Nat) : Nat → Int32 → (Nat → Int32) → Nat → (Nat → Int32) → (Nat → Int32) → Int32 → Int64 → Int32 → Option (Int64)
  | 0 => fun _ _ _ _ _ _ _ _ => none
  | n + 1 => fun formula_rows formula_cells formula_cells_n above below_ y1 y2 y4 => ifb (8 ≤ y4) (some y2) (ix y4 8 ((f_X5_number N formula_rows formula_cells formula_cells_n y1 y4).bind (fun z47 => ix y4 8 (ckp (¬ (jmax (below_ y4.toNatClampNeg) 1) = 0) (f_X6_sumWithValues_19 N n formula_rows formula_cells formula_cells_n above below_ y1 (y2 + ((z47.toInt64 * ((above y4.toNatClampNeg).toInt64)) * ((2520 / (jmax (below_ y4.toNatClampNeg) 1)).toInt64))) (y4 + 1))))))
def f_X6_sumWithValues (N : Nat) (formula_rows : Int32) (formula_cells : Nat → Int32) (formula_cells_n : Nat) (above : Nat → Int32) (below_ : Nat → Int32) (x1 : Int32) : Option (Int64) := (f_X5_number N formula_rows formula_cells formula_cells_n x1 8).bind (fun z7 => f_X6_sumWithValues_19 N N formula_rows formula_cells formula_cells_n above below_ x1 (z7.toInt64 * 2520) 0)
variable {p : Program} {l : Launch} {e : Env} {s : State} {m : MethodId} {below : List Frame} {meth : Method} {c : Code} {args : Array Value} {x0 : Cond} {D : va_G} {cI cJ cB : ClassId} {sz N : Nat} {ws0 : va_W} {a0 a_reader a_freer a_scribe a_copy a_spans a_found a_formula a_formula_cells a_above a_below : Nat} {loose : Int32} {formula_rows : Int32} {formula_cells : Nat → Int32} {formula_cells_n : Nat} {above : Nat → Int32} {below_ : Nat → Int32} {z : Int64}
set_option maxHeartbeats 4000000 in
set_option maxRecDepth 100000 in
theorem w_X6_sumWithValues_19 (CX : Cx p m c cX6_sumWithValues 6 s args x0 RX6 meth (some .long)) (hK : va_K D vwCl (ty0 cI cJ cB) s) (hsz : s.heap.size = sz) : ∀ (n : Nat), ∀ (y1 : Int32) (y2 : Int64) (y4 : Int32) (H : Heap) (locs : List Loc) (ls : Array Slot), f_X6_sumWithValues_19 N n formula_rows formula_cells formula_cells_n above below_ y1 y2 y4 = some z → va_P D vwCl (ws_X6_sumWithValues cI cJ cB a0 a_reader a_freer a_scribe a_copy a_spans a_found a_formula a_formula_cells a_above a_below loose formula_rows formula_cells formula_cells_n above below_) H → va_D (va_A ws0 sz) (ws_X6_sumWithValues cI cJ cB a0 a_reader a_freer a_scribe a_copy a_spans a_found a_formula a_formula_cells a_above a_below loose formula_rows formula_cells formula_cells_n above below_) → va_S (va_A ws0 sz) s.heap H locs → lv_has ls 6 [(0, .ref a0), (1, .int y1), (2, .long y2), (4, .int y4)] → W p l e rm_X6_sumWithValues s m args below meth c H locs 0 0 (MQ below (gQ D sz ws0 (ws_X6_sumWithValues cI cJ cB a0 a_reader a_freer a_scribe a_copy a_spans a_found a_formula a_formula_cells a_above a_below loose formula_rows formula_cells formula_cells_n above below_) (some (.long z))) args s 0 0 (va_A ws0 sz)) (F0 m 19 ls []) := by
  obtain ⟨F, hr, hlk, hNw⟩ := id CX
  have hx := F.1
  have hb := F.2.1
  have hown := F.2.2.2.1
  have hA : ∀ q, s.heap.size ≤ q → va_A ws0 sz q := fun q hq => Or.inr (hsz ▸ hq)
  intro n
  induction n with
  | zero =>
    intro y1 y2 y4 H locs ls h
    cases h
  | succ n ih =>
    intro y1 y2 y4 H locs ls h hP hD hS hl
    unfold f_X6_sumWithValues_19 at h
    refine lv_iload hx hb dX6_sumWithValues_19 (lv_at hl 3 rfl) ?_
    refine lv_bipush (v := 8) hx hb dX6_sumWithValues_21 (by decide) ?_
    refine lv_icmp_ge (tgt := 76) hx hb dX6_sumWithValues_23 (by decide) (fun c23 => ?_) (fun c23 => ?_)
    · have h := o_t c23 h
      refine lv_lload_n hx hb dX6_sumWithValues_76 rfl (lv_at hl 2 rfl) ?_
      obtain rfl := Option.some.inj h
      exact r_lret F hr hlk dX6_sumWithValues_77 hsz hP hD hS
    · have h := o_f c23 h
      refine lv_aload_n hx hb dX6_sumWithValues_26 rfl (lv_at hl 0 rfl) ?_
      refine r_get F hK hP 0 6 rfl inW_X6 wm_589 rfl (by decide) rfl dX6_sumWithValues_27 ?_
      refine lv_iload hx hb dX6_sumWithValues_30 (lv_at hl 3 rfl) ?_
      obtain ⟨hi32, h⟩ := o_ix h
      refine va_iald hx hb hK hP 4 0 rfl rfl hi32 dX6_sumWithValues_32 ?_
      refine lv_iconst (v := 1) hx hb dX6_sumWithValues_33 (by decide) ?_
      refine va_mmax hx hb (F.2.2.1.trans hl.1.symm) hown (F.2.2.2.2 _ (q_in wm_1060)) (F.2.2.2.2 _ (q_in wm_123)) (F.2.2.2.2 _ (q_in wm_75)) (F.2.2.2.2 _ (q_in wm_124)) (Nat.le_of_ble_eq_true rfl) (Nat.le_of_ble_eq_true rfl) (Nat.zero_le _) (Nat.zero_le _) dX6_sumWithValues_34 ?_
      refine lv_istore (lv' := [(5, .int (jmax (below_ y4.toNatClampNeg) 1)), (0, .ref a0), (1, .int y1), (2, .long y2), (4, .int y4)]) hx hb dX6_sumWithValues_37 hl (by decide) rfl (fun ls hl => ?_)
      refine lv_lload_n hx hb dX6_sumWithValues_39 rfl (lv_at hl 3 rfl) ?_
      refine lv_aload_n hx hb dX6_sumWithValues_40 rfl (lv_at hl 1 rfl) ?_
      refine r_get F hK hP 0 3 rfl inW_X6 wm_586 rfl (by decide) rfl dX6_sumWithValues_41 ?_
      refine lv_iload_n hx hb dX6_sumWithValues_44 rfl (lv_at hl 2 rfl) ?_
      refine lv_iload hx hb dX6_sumWithValues_45 (lv_at hl 4 rfl) ?_
      obtain ⟨z47, hz47, h⟩ := o_b h
      refine k_v (wn := (ws_X6_sumWithValues cI cJ cB a0 a_reader a_freer a_scribe a_copy a_spans a_found a_formula a_formula_cells a_above a_below loose formula_rows formula_cells formula_cells_n above below_)) (As := [.int y1, .int y4]) (rest := [.long y2]) F hNw hK hP hD hS hA (c_X5_number l D cI cJ cB a_formula a_formula_cells _ formula_rows formula_cells formula_cells_n y1 y4 N hz47) wm_1058 cv_X5_number [1, 2] [0, 3, 4] [0, 3, 4, 1, 2] (⟨rfl, rfl, rfl, by decide, rfl⟩ : Ix [1, 2] [0, 3, 4] [0, 3, 4, 1, 2] 5) rfl (hN_of 3 5 (by decide +kernel) rfl (by decide +kernel) rfl) rfl rfl rfl rfl ⟨rfl, rfl, by decide, by decide⟩ hl.1 rfl (Nat.le_of_ble_eq_true rfl) ⟨Nat.zero_le _, Nat.zero_le _⟩ dX6_sumWithValues_47 (fun H locs hP hD hS => ?_)
      refine lv_i2l hx hb dX6_sumWithValues_50 rfl ?_
      refine lv_aload_n hx hb dX6_sumWithValues_51 rfl (lv_at hl 1 rfl) ?_
      refine r_get F hK hP 0 5 rfl inW_X6 wm_588 rfl (by decide) rfl dX6_sumWithValues_52 ?_
      refine lv_iload hx hb dX6_sumWithValues_55 (lv_at hl 4 rfl) ?_
      obtain ⟨hi57, h⟩ := o_ix h
      refine va_iald hx hb hK hP 3 0 rfl rfl hi57 dX6_sumWithValues_57 ?_
      refine lv_i2l hx hb dX6_sumWithValues_58 rfl ?_
      refine lv_lmul hx hb dX6_sumWithValues_59 ?_
      refine lv_sipush (v := 2520) hx hb dX6_sumWithValues_60 (by decide) ?_
      refine lv_iload hx hb dX6_sumWithValues_63 (lv_at hl 0 rfl) ?_
      obtain ⟨hc65, h⟩ := o_c h
      refine lv_idiv hx hb dX6_sumWithValues_65 hc65 ?_
      refine lv_i2l hx hb dX6_sumWithValues_66 rfl ?_
      refine lv_lmul hx hb dX6_sumWithValues_67 ?_
      refine lv_ladd hx hb dX6_sumWithValues_68 ?_
      refine lv_lstore_n (lv' := [(2, .long (y2 + ((z47.toInt64 * ((above y4.toNatClampNeg).toInt64)) * ((2520 / (jmax (below_ y4.toNatClampNeg) 1)).toInt64)))), (5, .int (jmax (below_ y4.toNatClampNeg) 1)), (0, .ref a0), (1, .int y1), (4, .int y4)]) hx hb dX6_sumWithValues_69 rfl hl (by decide) rfl (fun ls hl => ?_)
      refine lv_iinc (v := y4 + 1) (lv' := [(4, .int (y4 + 1)), (2, .long (y2 + ((z47.toInt64 * ((above y4.toNatClampNeg).toInt64)) * ((2520 / (jmax (below_ y4.toNatClampNeg) 1)).toInt64)))), (5, .int (jmax (below_ y4.toNatClampNeg) 1)), (0, .ref a0), (1, .int y1)]) hx hb dX6_sumWithValues_70 hl (k := 4) rfl rfl (by decide) rfl (fun ls hl => ?_)
      refine lv_goto (tgt := 19) hx hb dX6_sumWithValues_73 (by decide) ?_
      exact ih y1 (y2 + ((z47.toInt64 * ((above y4.toNatClampNeg).toInt64)) * ((2520 / (jmax (below_ y4.toNatClampNeg) 1)).toInt64))) (y4 + 1) _ _ _ h hP hD hS (lv_sub hl [3, 4, 1, 0] rfl)
end G_X6_sumWithValues
set_option maxHeartbeats 4000000 in
set_option maxRecDepth 100000 in
theorem c_X6_sumWithValues (l : Launch) (D : va_G) (cI cJ cB : ClassId) (a0 a_reader a_freer a_scribe a_copy a_spans a_found a_formula a_formula_cells a_above a_below : Nat) (sz : Nat) (loose : Int32) (formula_rows : Int32) (formula_cells : Nat → Int32) (formula_cells_n : Nat) (above : Nat → Int32) (below_ : Nat → Int32) (x1 : Int32) (N : Nat) {z : Int64} (h : f_X6_sumWithValues N formula_rows formula_cells formula_cells_n above below_ x1 = some z) : Mg l yX6_sumWithValues cX6_sumWithValues 6 (some .long) rm_X6_sumWithValues D (ty0 cI cJ cB) [.ref a0, .int x1] sz (ws_X6_sumWithValues cI cJ cB a0 a_reader a_freer a_scribe a_copy a_spans a_found a_formula a_formula_cells a_above a_below loose formula_rows formula_cells formula_cells_n above below_) (some (.long z)) (ws_X6_sumWithValues cI cJ cB a0 a_reader a_freer a_scribe a_copy a_spans a_found a_formula a_formula_cells a_above a_below loose formula_rows formula_cells formula_cells_n above below_) := by
  refine Mg.of (by decide) (Nat.le_of_ble_eq_true rfl) ?_
  intro p e s m below meth c CX hK hsz hP hD ls hl
  have CX : Cx p m c cX6_sumWithValues 6 s ([.ref a0, .int x1] : List Value).toArray (Cond.code yX6_sumWithValues cX6_sumWithValues 6 (some .long)) RX6 meth (some .long) := CX
  obtain ⟨F, hr, hlk, hNw⟩ := id CX
  have hx := F.1
  have hb := F.2.1
  have hown := F.2.2.2.1
  have hl : lv_has ls 6 [(0, .ref a0), (1, .int x1)] := hl
  have hS : va_S (va_A (ws_X6_sumWithValues cI cJ cB a0 a_reader a_freer a_scribe a_copy a_spans a_found a_formula a_formula_cells a_above a_below loose formula_rows formula_cells formula_cells_n above below_) sz) s.heap s.heap [] := va_S.rf
  have hA : ∀ q, s.heap.size ≤ q → va_A (ws_X6_sumWithValues cI cJ cB a0 a_reader a_freer a_scribe a_copy a_spans a_found a_formula a_formula_cells a_above a_below loose formula_rows formula_cells formula_cells_n above below_) sz q := fun q hq => Or.inr (hsz ▸ hq)
  unfold f_X6_sumWithValues at h
  refine lv_aload_n hx hb dX6_sumWithValues_0 rfl (lv_at hl 0 rfl) ?_
  refine r_get F hK hP 0 3 rfl inW_X6 wm_586 rfl (by decide) rfl dX6_sumWithValues_1 ?_
  refine lv_iload_n hx hb dX6_sumWithValues_4 rfl (lv_at hl 1 rfl) ?_
  refine lv_bipush (v := 8) hx hb dX6_sumWithValues_5 (by decide) ?_
  obtain ⟨z7, hz7, h⟩ := o_b h
  refine k_v (wn := (ws_X6_sumWithValues cI cJ cB a0 a_reader a_freer a_scribe a_copy a_spans a_found a_formula a_formula_cells a_above a_below loose formula_rows formula_cells formula_cells_n above below_)) (As := [.int x1, .int 8]) (rest := []) F hNw hK hP hD hS hA (c_X5_number l D cI cJ cB a_formula a_formula_cells _ formula_rows formula_cells formula_cells_n x1 8 N hz7) wm_1058 cv_X5_number [1, 2] [0, 3, 4] [0, 3, 4, 1, 2] (⟨rfl, rfl, rfl, by decide, rfl⟩ : Ix [1, 2] [0, 3, 4] [0, 3, 4, 1, 2] 5) rfl (hN_of 3 5 (by decide +kernel) rfl (by decide +kernel) rfl) rfl rfl rfl rfl ⟨rfl, rfl, by decide, by decide⟩ hl.1 rfl (Nat.le_of_ble_eq_true rfl) ⟨Nat.zero_le _, Nat.zero_le _⟩ dX6_sumWithValues_7 (fun H locs hP hD hS => ?_)
  refine lv_i2l hx hb dX6_sumWithValues_10 rfl ?_
  refine lv_ldc2 (v := 2520) hx hb hown (F.2.2.2.2 _ (q_in wm_1059)) dX6_sumWithValues_11 ?_
  refine lv_lmul hx hb dX6_sumWithValues_14 ?_
  refine lv_lstore_n (lv' := [(2, .long (z7.toInt64 * 2520)), (0, .ref a0), (1, .int x1)]) hx hb dX6_sumWithValues_15 rfl hl (by decide) rfl (fun ls hl => ?_)
  refine lv_iconst (v := 0) hx hb dX6_sumWithValues_16 (by decide) ?_
  refine lv_istore (lv' := [(4, .int 0), (2, .long (z7.toInt64 * 2520)), (0, .ref a0), (1, .int x1)]) hx hb dX6_sumWithValues_17 hl (by decide) rfl (fun ls hl => ?_)
  exact w_X6_sumWithValues_19 CX hK hsz N x1 (z7.toInt64 * 2520) 0 _ _ _ h hP hD hS (lv_sub hl [2, 3, 1, 0] rfl)
section G_X6_depth
abbrev ws_X6_depth (cI cJ cB : ClassId) (a0 a_reader a_freer a_scribe a_copy a_above a_below a_formula a_formula_cells a_spans a_found : Nat) (loose : Int32) (formula_rows : Int32) (formula_cells : Nat → Int32) (formula_cells_n : Nat) (spans : Nat → Int32) (found : Nat → Int32) : va_W := [(a0, .inr (8, [.ref a_reader, .ref a_freer, .ref a_scribe, .ref a_formula, .ref a_copy, .ref a_above, .ref a_below, .ref a_spans, .ref a_found, .int loose])), (a_formula, .inr (7, [.ref a_formula_cells, .int formula_rows])), (a_formula_cells, .inl (cI, formula_cells_n, .inl formula_cells)), (a_spans, .inl (cI, 400, .inl spans)), (a_found, .inl (cI, 400, .inl found))]
abbrev rm_X6_depth : Room := { frames := 2, cells := 0, slots := 0, locals := 49 }
def f_X6_depth_130 (K27 : Int32 → (Nat → Int32) → Nat → (Nat → Int32) → (Nat → Int32) → Int32 → Int32 → Option (Int32 × (Nat → Int32) × (Nat → Int32))) (N : Nat) (formula_rows : Int32) (formula_cells : Nat → Int32) (formula_cells_n : Nat) (spans : Nat → Int32) (found : Nat → Int32) (y1 : Int32) (y2 : Int32) (s1 : Int32) (s2 : Int32) (s3 : Int32) (s4 : Int32) : Option (Int32 × (Nat → Int32) × (Nat → Int32)) := ix s1 400 (K27 formula_rows formula_cells formula_cells_n spans (upd found s1.toNatClampNeg (s2 + (jmax s3 s4))) y1 (y2 + 1))
def f_X6_depth_104 (K27 : Int32 → (Nat → Int32) → Nat → (Nat → Int32) → (Nat → Int32) → Int32 → Int32 → Option (Int32 × (Nat → Int32) × (Nat → Int32))) (N : Nat) (formula_rows : Int32) (formula_cells : Nat → Int32) (formula_cells_n : Nat) (spans : Nat → Int32) (found : Nat → Int32) (y1 : Int32) (y2 : Int32) (y5 : Int32) (s0 : Int32) : Option (Int32 × (Nat → Int32) × (Nat → Int32)) := ifb (y5 < 0) (f_X6_depth_130 K27 N formula_rows formula_cells formula_cells_n spans found y1 y2 y2 1 s0 0) (ix y5 400 (f_X6_depth_130 K27 N formula_rows formula_cells formula_cells_n spans found y1 y2 y2 1 s0 (found y5.toNatClampNeg)))
def f_X6_depth_103 (K27 : Int32 → (Nat → Int32) → Nat → (Nat → Int32) → (Nat → Int32) → Int32 → Int32 → Option (Int32 × (Nat → Int32) × (Nat → Int32))) (N : Nat) (formula_rows : Int32) (formula_cells : Nat → Int32) (formula_cells_n : Nat) (spans : Nat → Int32) (found : Nat → Int32) (y1 : Int32) (y2 : Int32) (y5 : Int32) : Option (Int32 × (Nat → Int32) × (Nat → Int32)) := f_X6_depth_104 K27 N formula_rows formula_cells formula_cells_n spans found y1 y2 y5 0
def f_X6_depth_80 (K27 : Int32 → (Nat → Int32) → Nat → (Nat → Int32) → (Nat → Int32) → Int32 → Int32 → Option (Int32 × (Nat → Int32) × (Nat → Int32))) (N : Nat) (formula_rows : Int32) (formula_cells : Nat → Int32) (formula_cells_n : Nat) (spans : Nat → Int32) (found : Nat → Int32) (y1 : Int32) (y2 : Int32) (y3 : Int32) (y4 : Int32) (s0 : Int32) : Option (Int32 × (Nat → Int32) × (Nat → Int32)) := ifb (y3 < 6) (f_X6_depth_103 K27 N formula_rows formula_cells formula_cells_n spans found y1 y2 s0) (ifb (y4 < 0) (f_X6_depth_103 K27 N formula_rows formula_cells formula_cells_n spans found y1 y2 s0) (ix y4 400 (f_X6_depth_104 K27 N formula_rows formula_cells formula_cells_n spans found y1 y2 s0 (found y4.toNatClampNeg))))
def f_X6_depth_58 (K27 : Int32 → (Nat → Int32) → Nat → (Nat → Int32) → (Nat → Int32) → Int32 → Int32 → Option (Int32 × (Nat → Int32) × (Nat → Int32))) (N : Nat) (formula_rows : Int32) (formula_cells : Nat → Int32) (formula_cells_n : Nat) (spans : Nat → Int32) (found : Nat → Int32) (y1 : Int32) (y2 : Int32) (y3 : Int32) (y4 : Int32) : Option (Int32 × (Nat → Int32) × (Nat → Int32)) := ifb (y4 < 0) (f_X6_depth_80 K27 N formula_rows formula_cells formula_cells_n spans found y1 y2 y3 y4 (-1)) (ix y4 400 (f_X6_depth_80 K27 N formula_rows formula_cells formula_cells_n spans found y1 y2 y3 y4 ((spans y4.toNatClampNeg) - 1)))
def f_X6_depth_157 (N : Nat) (formula_rows : Int32) (formula_cells : Nat → Int32) (formula_cells_n : Nat) (spans : Nat → Int32) (found : Nat → Int32) (s0 : Int32) : Option (Int32 × (Nat → Int32) × (Nat → Int32)) := some (s0, spans, found)
def f_X6_depth_27 (N : Nat) : Nat → Int32 → (Nat → Int32) → Nat → (Nat → Int32) → (Nat → Int32) → Int32 → Int32 → Option (Int32 × (Nat → Int32) × (Nat → Int32))
  | 0 => fun _ _ _ _ _ _ _ => none
  | n + 1 => fun formula_rows formula_cells formula_cells_n spans found y1 y2 => ifb (y1 ≤ y2) (ifb (y1 ≤ 0) (f_X6_depth_157 N formula_rows formula_cells formula_cells_n spans found 0) (ix (y1 - 1) 400 (f_X6_depth_157 N formula_rows formula_cells formula_cells_n spans found (found (y1 - 1).toNatClampNeg)))) ((f_X5_kind N formula_rows formula_cells formula_cells_n y2).bind (fun z37 => ifb (z37 = 6) (f_X6_depth_58 (f_X6_depth_27 N n) N formula_rows formula_cells formula_cells_n spans found y1 y2 z37 (y2 - 1)) (ifb (z37 = 7) (f_X6_depth_58 (f_X6_depth_27 N n) N formula_rows formula_cells formula_cells_n spans found y1 y2 z37 (y2 - 1)) (f_X6_depth_80 (f_X6_depth_27 N n) N formula_rows formula_cells formula_cells_n spans found y1 y2 z37 (y2 - 1) (-1)))))
def f_X6_depth (N : Nat) (formula_rows : Int32) (formula_cells : Nat → Int32) (formula_cells_n : Nat) (spans : Nat → Int32) (found : Nat → Int32) : Option (Int32 × (Nat → Int32) × (Nat → Int32)) := (f_X5_measure N formula_rows formula_cells formula_cells_n spans 400).bind (fun z22 => f_X6_depth_27 N N formula_rows formula_cells formula_cells_n z22 found (jmin formula_rows 400) 0)
variable {p : Program} {l : Launch} {e : Env} {s : State} {m : MethodId} {below : List Frame} {meth : Method} {c : Code} {args : Array Value} {x0 : Cond} {D : va_G} {cI cJ cB : ClassId} {sz N : Nat} {ws0 : va_W} {a0 a_reader a_freer a_scribe a_copy a_above a_below a_formula a_formula_cells a_spans a_found : Nat} {loose : Int32} {formula_rows : Int32} {formula_cells : Nat → Int32} {formula_cells_n : Nat} {z : Int32 × (Nat → Int32) × (Nat → Int32)}
set_option maxHeartbeats 4000000 in
set_option maxRecDepth 100000 in
theorem w_X6_depth_130 (CX : Cx p m c cX6_depth 7 s args x0 RX6 meth (some .int)) (hK : va_K D vwCl (ty0 cI cJ cB) s) (hsz : s.heap.size = sz) {K27 : Int32 → (Nat → Int32) → Nat → (Nat → Int32) → (Nat → Int32) → Int32 → Int32 → Option (Int32 × (Nat → Int32) × (Nat → Int32))} (hK27 : ∀ (spans : Nat → Int32) (found : Nat → Int32) (y1 : Int32) (y2 : Int32) (H : Heap) (locs : List Loc) (ls : Array Slot), K27 formula_rows formula_cells formula_cells_n spans found y1 y2 = some z → va_P D vwCl (ws_X6_depth cI cJ cB a0 a_reader a_freer a_scribe a_copy a_above a_below a_formula a_formula_cells a_spans a_found loose formula_rows formula_cells formula_cells_n spans found) H → va_D (va_A ws0 sz) (ws_X6_depth cI cJ cB a0 a_reader a_freer a_scribe a_copy a_above a_below a_formula a_formula_cells a_spans a_found loose formula_rows formula_cells formula_cells_n spans found) → va_S (va_A ws0 sz) s.heap H locs → lv_has ls 7 [(0, .ref a0), (1, .int y1), (2, .int y2)] → W p l e rm_X6_depth s m args below meth c H locs 0 0 (MQ below (gQ D sz ws0 (ws_X6_depth cI cJ cB a0 a_reader a_freer a_scribe a_copy a_above a_below a_formula a_formula_cells a_spans a_found loose formula_rows formula_cells formula_cells_n z.2.1 z.2.2) (some (.int z.1))) args s 0 0 (va_A ws0 sz)) (F0 m 27 ls [])) : ∀ (spans : Nat → Int32) (found : Nat → Int32) (y1 : Int32) (y2 : Int32) (s1 : Int32) (s2 : Int32) (s3 : Int32) (s4 : Int32) (H : Heap) (locs : List Loc) (ls : Array Slot), f_X6_depth_130 K27 N formula_rows formula_cells formula_cells_n spans found y1 y2 s1 s2 s3 s4 = some z → va_P D vwCl (ws_X6_depth cI cJ cB a0 a_reader a_freer a_scribe a_copy a_above a_below a_formula a_formula_cells a_spans a_found loose formula_rows formula_cells formula_cells_n spans found) H → va_D (va_A ws0 sz) (ws_X6_depth cI cJ cB a0 a_reader a_freer a_scribe a_copy a_above a_below a_formula a_formula_cells a_spans a_found loose formula_rows formula_cells formula_cells_n spans found) → va_S (va_A ws0 sz) s.heap H locs → lv_has ls 7 [(0, .ref a0), (1, .int y1), (2, .int y2)] → W p l e rm_X6_depth s m args below meth c H locs 0 0 (MQ below (gQ D sz ws0 (ws_X6_depth cI cJ cB a0 a_reader a_freer a_scribe a_copy a_above a_below a_formula a_formula_cells a_spans a_found loose formula_rows formula_cells formula_cells_n z.2.1 z.2.2) (some (.int z.1))) args s 0 0 (va_A ws0 sz)) (F0 m 130 ls [.int s4, .int s3, .int s2, .int s1, .ref a_found]) := by
  obtain ⟨F, hr, hlk, hNw⟩ := id CX
  have hx := F.1
  have hb := F.2.1
  have hown := F.2.2.2.1
  have hA : ∀ q, s.heap.size ≤ q → va_A ws0 sz q := fun q hq => Or.inr (hsz ▸ hq)
  intro spans found y1 y2 s1 s2 s3 s4 H locs ls h hP hD hS hl
  unfold f_X6_depth_130 at h
  refine va_mmax hx hb (F.2.2.1.trans hl.1.symm) hown (F.2.2.2.2 _ (q_in wm_1060)) (F.2.2.2.2 _ (q_in wm_123)) (F.2.2.2.2 _ (q_in wm_75)) (F.2.2.2.2 _ (q_in wm_124)) (Nat.le_of_ble_eq_true rfl) (Nat.le_of_ble_eq_true rfl) (Nat.zero_le _) (Nat.zero_le _) dX6_depth_130 ?_
  refine lv_iadd hx hb dX6_depth_133 ?_
  obtain ⟨hi134, h⟩ := o_ix h
  refine r_iast (wn := (ws_X6_depth cI cJ cB a0 a_reader a_freer a_scribe a_copy a_above a_below a_formula a_formula_cells a_spans a_found loose formula_rows formula_cells formula_cells_n spans (upd found s1.toNatClampNeg (s2 + (jmax s3 s4))))) F hK hP hD hS 4 0 hi134 rfl rfl rfl dX6_depth_134 (fun H locs hP hD hS => ?_)
  refine lv_iinc (v := y2 + 1) (lv' := [(2, .int (y2 + 1)), (0, .ref a0), (1, .int y1)]) hx hb dX6_depth_135 hl (k := 2) rfl rfl (by decide) rfl (fun ls hl => ?_)
  refine lv_goto (tgt := 27) hx hb dX6_depth_138 (by decide) ?_
  exact hK27 spans (upd found s1.toNatClampNeg (s2 + (jmax s3 s4))) y1 (y2 + 1) _ _ _ h hP hD hS (lv_sub hl [1, 2, 0] rfl)
set_option maxHeartbeats 4000000 in
set_option maxRecDepth 100000 in
theorem w_X6_depth_104 (CX : Cx p m c cX6_depth 7 s args x0 RX6 meth (some .int)) (hK : va_K D vwCl (ty0 cI cJ cB) s) (hsz : s.heap.size = sz) {K27 : Int32 → (Nat → Int32) → Nat → (Nat → Int32) → (Nat → Int32) → Int32 → Int32 → Option (Int32 × (Nat → Int32) × (Nat → Int32))} (hK27 : ∀ (spans : Nat → Int32) (found : Nat → Int32) (y1 : Int32) (y2 : Int32) (H : Heap) (locs : List Loc) (ls : Array Slot), K27 formula_rows formula_cells formula_cells_n spans found y1 y2 = some z → va_P D vwCl (ws_X6_depth cI cJ cB a0 a_reader a_freer a_scribe a_copy a_above a_below a_formula a_formula_cells a_spans a_found loose formula_rows formula_cells formula_cells_n spans found) H → va_D (va_A ws0 sz) (ws_X6_depth cI cJ cB a0 a_reader a_freer a_scribe a_copy a_above a_below a_formula a_formula_cells a_spans a_found loose formula_rows formula_cells formula_cells_n spans found) → va_S (va_A ws0 sz) s.heap H locs → lv_has ls 7 [(0, .ref a0), (1, .int y1), (2, .int y2)] → W p l e rm_X6_depth s m args below meth c H locs 0 0 (MQ below (gQ D sz ws0 (ws_X6_depth cI cJ cB a0 a_reader a_freer a_scribe a_copy a_above a_below a_formula a_formula_cells a_spans a_found loose formula_rows formula_cells formula_cells_n z.2.1 z.2.2) (some (.int z.1))) args s 0 0 (va_A ws0 sz)) (F0 m 27 ls [])) : ∀ (spans : Nat → Int32) (found : Nat → Int32) (y1 : Int32) (y2 : Int32) (y5 : Int32) (s0 : Int32) (H : Heap) (locs : List Loc) (ls : Array Slot), f_X6_depth_104 K27 N formula_rows formula_cells formula_cells_n spans found y1 y2 y5 s0 = some z → va_P D vwCl (ws_X6_depth cI cJ cB a0 a_reader a_freer a_scribe a_copy a_above a_below a_formula a_formula_cells a_spans a_found loose formula_rows formula_cells formula_cells_n spans found) H → va_D (va_A ws0 sz) (ws_X6_depth cI cJ cB a0 a_reader a_freer a_scribe a_copy a_above a_below a_formula a_formula_cells a_spans a_found loose formula_rows formula_cells formula_cells_n spans found) → va_S (va_A ws0 sz) s.heap H locs → lv_has ls 7 [(0, .ref a0), (1, .int y1), (2, .int y2), (5, .int y5)] → W p l e rm_X6_depth s m args below meth c H locs 0 0 (MQ below (gQ D sz ws0 (ws_X6_depth cI cJ cB a0 a_reader a_freer a_scribe a_copy a_above a_below a_formula a_formula_cells a_spans a_found loose formula_rows formula_cells formula_cells_n z.2.1 z.2.2) (some (.int z.1))) args s 0 0 (va_A ws0 sz)) (F0 m 104 ls [.int s0]) := by
  obtain ⟨F, hr, hlk, hNw⟩ := id CX
  have hx := F.1
  have hb := F.2.1
  have hown := F.2.2.2.1
  have hA : ∀ q, s.heap.size ≤ q → va_A ws0 sz q := fun q hq => Or.inr (hsz ▸ hq)
  intro spans found y1 y2 y5 s0 H locs ls h hP hD hS hl
  unfold f_X6_depth_104 at h
  refine lv_istore (lv' := [(6, .int s0), (0, .ref a0), (1, .int y1), (2, .int y2), (5, .int y5)]) hx hb dX6_depth_104 hl (by decide) rfl (fun ls hl => ?_)
  refine lv_aload_n hx hb dX6_depth_106 rfl (lv_at hl 1 rfl) ?_
  refine r_get F hK hP 0 8 rfl inW_X6 wm_591 rfl (by decide) rfl dX6_depth_107 ?_
  refine lv_iload_n hx hb dX6_depth_110 rfl (lv_at hl 3 rfl) ?_
  refine lv_iconst (v := 1) hx hb dX6_depth_111 (by decide) ?_
  refine lv_iload hx hb dX6_depth_112 (lv_at hl 0 rfl) ?_
  refine lv_iload hx hb dX6_depth_114 (lv_at hl 4 rfl) ?_
  refine lv_if_lt (tgt := 129) hx hb dX6_depth_116 (by decide) (fun c116 => ?_) (fun c116 => ?_)
  · have h := o_t c116 h
    refine lv_iconst (v := 0) hx hb dX6_depth_129 (by decide) ?_
    exact w_X6_depth_130 CX hK hsz (hK27 := hK27) spans found y1 y2 y2 1 s0 0 _ _ _ h hP hD hS (lv_sub hl [1, 2, 3] rfl)
  · have h := o_f c116 h
    refine lv_aload_n hx hb dX6_depth_119 rfl (lv_at hl 1 rfl) ?_
    refine r_get F hK hP 0 8 rfl inW_X6 wm_591 rfl (by decide) rfl dX6_depth_120 ?_
    refine lv_iload hx hb dX6_depth_123 (lv_at hl 4 rfl) ?_
    obtain ⟨hi125, h⟩ := o_ix h
    refine va_iald hx hb hK hP 4 0 rfl rfl hi125 dX6_depth_125 ?_
    refine lv_goto (tgt := 130) hx hb dX6_depth_126 (by decide) ?_
    exact w_X6_depth_130 CX hK hsz (hK27 := hK27) spans found y1 y2 y2 1 s0 (found y5.toNatClampNeg) _ _ _ h hP hD hS (lv_sub hl [1, 2, 3] rfl)
set_option maxHeartbeats 4000000 in
set_option maxRecDepth 100000 in
theorem w_X6_depth_103 (CX : Cx p m c cX6_depth 7 s args x0 RX6 meth (some .int)) (hK : va_K D vwCl (ty0 cI cJ cB) s) (hsz : s.heap.size = sz) {K27 : Int32 → (Nat → Int32) → Nat → (Nat → Int32) → (Nat → Int32) → Int32 → Int32 → Option (Int32 × (Nat → Int32) × (Nat → Int32))} (hK27 : ∀ (spans : Nat → Int32) (found : Nat → Int32) (y1 : Int32) (y2 : Int32) (H : Heap) (locs : List Loc) (ls : Array Slot), K27 formula_rows formula_cells formula_cells_n spans found y1 y2 = some z → va_P D vwCl (ws_X6_depth cI cJ cB a0 a_reader a_freer a_scribe a_copy a_above a_below a_formula a_formula_cells a_spans a_found loose formula_rows formula_cells formula_cells_n spans found) H → va_D (va_A ws0 sz) (ws_X6_depth cI cJ cB a0 a_reader a_freer a_scribe a_copy a_above a_below a_formula a_formula_cells a_spans a_found loose formula_rows formula_cells formula_cells_n spans found) → va_S (va_A ws0 sz) s.heap H locs → lv_has ls 7 [(0, .ref a0), (1, .int y1), (2, .int y2)] → W p l e rm_X6_depth s m args below meth c H locs 0 0 (MQ below (gQ D sz ws0 (ws_X6_depth cI cJ cB a0 a_reader a_freer a_scribe a_copy a_above a_below a_formula a_formula_cells a_spans a_found loose formula_rows formula_cells formula_cells_n z.2.1 z.2.2) (some (.int z.1))) args s 0 0 (va_A ws0 sz)) (F0 m 27 ls [])) : ∀ (spans : Nat → Int32) (found : Nat → Int32) (y1 : Int32) (y2 : Int32) (y5 : Int32) (H : Heap) (locs : List Loc) (ls : Array Slot), f_X6_depth_103 K27 N formula_rows formula_cells formula_cells_n spans found y1 y2 y5 = some z → va_P D vwCl (ws_X6_depth cI cJ cB a0 a_reader a_freer a_scribe a_copy a_above a_below a_formula a_formula_cells a_spans a_found loose formula_rows formula_cells formula_cells_n spans found) H → va_D (va_A ws0 sz) (ws_X6_depth cI cJ cB a0 a_reader a_freer a_scribe a_copy a_above a_below a_formula a_formula_cells a_spans a_found loose formula_rows formula_cells formula_cells_n spans found) → va_S (va_A ws0 sz) s.heap H locs → lv_has ls 7 [(0, .ref a0), (1, .int y1), (2, .int y2), (5, .int y5)] → W p l e rm_X6_depth s m args below meth c H locs 0 0 (MQ below (gQ D sz ws0 (ws_X6_depth cI cJ cB a0 a_reader a_freer a_scribe a_copy a_above a_below a_formula a_formula_cells a_spans a_found loose formula_rows formula_cells formula_cells_n z.2.1 z.2.2) (some (.int z.1))) args s 0 0 (va_A ws0 sz)) (F0 m 103 ls []) := by
  obtain ⟨F, hr, hlk, hNw⟩ := id CX
  have hx := F.1
  have hb := F.2.1
  have hown := F.2.2.2.1
  have hA : ∀ q, s.heap.size ≤ q → va_A ws0 sz q := fun q hq => Or.inr (hsz ▸ hq)
  intro spans found y1 y2 y5 H locs ls h hP hD hS hl
  unfold f_X6_depth_103 at h
  refine lv_iconst (v := 0) hx hb dX6_depth_103 (by decide) ?_
  exact w_X6_depth_104 CX hK hsz (hK27 := hK27) spans found y1 y2 y5 0 _ _ _ h hP hD hS (lv_sub hl [0, 1, 2, 3] rfl)
set_option maxHeartbeats 4000000 in
set_option maxRecDepth 100000 in
theorem w_X6_depth_80 (CX : Cx p m c cX6_depth 7 s args x0 RX6 meth (some .int)) (hK : va_K D vwCl (ty0 cI cJ cB) s) (hsz : s.heap.size = sz) {K27 : Int32 → (Nat → Int32) → Nat → (Nat → Int32) → (Nat → Int32) → Int32 → Int32 → Option (Int32 × (Nat → Int32) × (Nat → Int32))} (hK27 : ∀ (spans : Nat → Int32) (found : Nat → Int32) (y1 : Int32) (y2 : Int32) (H : Heap) (locs : List Loc) (ls : Array Slot), K27 formula_rows formula_cells formula_cells_n spans found y1 y2 = some z → va_P D vwCl (ws_X6_depth cI cJ cB a0 a_reader a_freer a_scribe a_copy a_above a_below a_formula a_formula_cells a_spans a_found loose formula_rows formula_cells formula_cells_n spans found) H → va_D (va_A ws0 sz) (ws_X6_depth cI cJ cB a0 a_reader a_freer a_scribe a_copy a_above a_below a_formula a_formula_cells a_spans a_found loose formula_rows formula_cells formula_cells_n spans found) → va_S (va_A ws0 sz) s.heap H locs → lv_has ls 7 [(0, .ref a0), (1, .int y1), (2, .int y2)] → W p l e rm_X6_depth s m args below meth c H locs 0 0 (MQ below (gQ D sz ws0 (ws_X6_depth cI cJ cB a0 a_reader a_freer a_scribe a_copy a_above a_below a_formula a_formula_cells a_spans a_found loose formula_rows formula_cells formula_cells_n z.2.1 z.2.2) (some (.int z.1))) args s 0 0 (va_A ws0 sz)) (F0 m 27 ls [])) : ∀ (spans : Nat → Int32) (found : Nat → Int32) (y1 : Int32) (y2 : Int32) (y3 : Int32) (y4 : Int32) (s0 : Int32) (H : Heap) (locs : List Loc) (ls : Array Slot), f_X6_depth_80 K27 N formula_rows formula_cells formula_cells_n spans found y1 y2 y3 y4 s0 = some z → va_P D vwCl (ws_X6_depth cI cJ cB a0 a_reader a_freer a_scribe a_copy a_above a_below a_formula a_formula_cells a_spans a_found loose formula_rows formula_cells formula_cells_n spans found) H → va_D (va_A ws0 sz) (ws_X6_depth cI cJ cB a0 a_reader a_freer a_scribe a_copy a_above a_below a_formula a_formula_cells a_spans a_found loose formula_rows formula_cells formula_cells_n spans found) → va_S (va_A ws0 sz) s.heap H locs → lv_has ls 7 [(0, .ref a0), (1, .int y1), (2, .int y2), (3, .int y3), (4, .int y4)] → W p l e rm_X6_depth s m args below meth c H locs 0 0 (MQ below (gQ D sz ws0 (ws_X6_depth cI cJ cB a0 a_reader a_freer a_scribe a_copy a_above a_below a_formula a_formula_cells a_spans a_found loose formula_rows formula_cells formula_cells_n z.2.1 z.2.2) (some (.int z.1))) args s 0 0 (va_A ws0 sz)) (F0 m 80 ls [.int s0]) := by
  obtain ⟨F, hr, hlk, hNw⟩ := id CX
  have hx := F.1
  have hb := F.2.1
  have hown := F.2.2.2.1
  have hA : ∀ q, s.heap.size ≤ q → va_A ws0 sz q := fun q hq => Or.inr (hsz ▸ hq)
  intro spans found y1 y2 y3 y4 s0 H locs ls h hP hD hS hl
  unfold f_X6_depth_80 at h
  refine lv_istore (lv' := [(5, .int s0), (0, .ref a0), (1, .int y1), (2, .int y2), (3, .int y3), (4, .int y4)]) hx hb dX6_depth_80 hl (by decide) rfl (fun ls hl => ?_)
  refine lv_iload_n hx hb dX6_depth_82 rfl (lv_at hl 4 rfl) ?_
  refine lv_bipush (v := 6) hx hb dX6_depth_83 (by decide) ?_
  refine lv_icmp_lt (tgt := 103) hx hb dX6_depth_85 (by decide) (fun c85 => ?_) (fun c85 => ?_)
  · have h := o_t c85 h
    exact w_X6_depth_103 CX hK hsz (hK27 := hK27) spans found y1 y2 s0 _ _ _ h hP hD hS (lv_sub hl [1, 2, 3, 0] rfl)
  · have h := o_f c85 h
    refine lv_iload hx hb dX6_depth_88 (lv_at hl 5 rfl) ?_
    refine lv_if_lt (tgt := 103) hx hb dX6_depth_90 (by decide) (fun c90 => ?_) (fun c90 => ?_)
    · have h := o_t c90 h
      exact w_X6_depth_103 CX hK hsz (hK27 := hK27) spans found y1 y2 s0 _ _ _ h hP hD hS (lv_sub hl [1, 2, 3, 0] rfl)
    · have h := o_f c90 h
      refine lv_aload_n hx hb dX6_depth_93 rfl (lv_at hl 1 rfl) ?_
      refine r_get F hK hP 0 8 rfl inW_X6 wm_591 rfl (by decide) rfl dX6_depth_94 ?_
      refine lv_iload hx hb dX6_depth_97 (lv_at hl 5 rfl) ?_
      obtain ⟨hi99, h⟩ := o_ix h
      refine va_iald hx hb hK hP 4 0 rfl rfl hi99 dX6_depth_99 ?_
      refine lv_goto (tgt := 104) hx hb dX6_depth_100 (by decide) ?_
      exact w_X6_depth_104 CX hK hsz (hK27 := hK27) spans found y1 y2 s0 (found y4.toNatClampNeg) _ _ _ h hP hD hS (lv_sub hl [1, 2, 3, 0] rfl)
set_option maxHeartbeats 4000000 in
set_option maxRecDepth 100000 in
theorem w_X6_depth_58 (CX : Cx p m c cX6_depth 7 s args x0 RX6 meth (some .int)) (hK : va_K D vwCl (ty0 cI cJ cB) s) (hsz : s.heap.size = sz) {K27 : Int32 → (Nat → Int32) → Nat → (Nat → Int32) → (Nat → Int32) → Int32 → Int32 → Option (Int32 × (Nat → Int32) × (Nat → Int32))} (hK27 : ∀ (spans : Nat → Int32) (found : Nat → Int32) (y1 : Int32) (y2 : Int32) (H : Heap) (locs : List Loc) (ls : Array Slot), K27 formula_rows formula_cells formula_cells_n spans found y1 y2 = some z → va_P D vwCl (ws_X6_depth cI cJ cB a0 a_reader a_freer a_scribe a_copy a_above a_below a_formula a_formula_cells a_spans a_found loose formula_rows formula_cells formula_cells_n spans found) H → va_D (va_A ws0 sz) (ws_X6_depth cI cJ cB a0 a_reader a_freer a_scribe a_copy a_above a_below a_formula a_formula_cells a_spans a_found loose formula_rows formula_cells formula_cells_n spans found) → va_S (va_A ws0 sz) s.heap H locs → lv_has ls 7 [(0, .ref a0), (1, .int y1), (2, .int y2)] → W p l e rm_X6_depth s m args below meth c H locs 0 0 (MQ below (gQ D sz ws0 (ws_X6_depth cI cJ cB a0 a_reader a_freer a_scribe a_copy a_above a_below a_formula a_formula_cells a_spans a_found loose formula_rows formula_cells formula_cells_n z.2.1 z.2.2) (some (.int z.1))) args s 0 0 (va_A ws0 sz)) (F0 m 27 ls [])) : ∀ (spans : Nat → Int32) (found : Nat → Int32) (y1 : Int32) (y2 : Int32) (y3 : Int32) (y4 : Int32) (H : Heap) (locs : List Loc) (ls : Array Slot), f_X6_depth_58 K27 N formula_rows formula_cells formula_cells_n spans found y1 y2 y3 y4 = some z → va_P D vwCl (ws_X6_depth cI cJ cB a0 a_reader a_freer a_scribe a_copy a_above a_below a_formula a_formula_cells a_spans a_found loose formula_rows formula_cells formula_cells_n spans found) H → va_D (va_A ws0 sz) (ws_X6_depth cI cJ cB a0 a_reader a_freer a_scribe a_copy a_above a_below a_formula a_formula_cells a_spans a_found loose formula_rows formula_cells formula_cells_n spans found) → va_S (va_A ws0 sz) s.heap H locs → lv_has ls 7 [(0, .ref a0), (1, .int y1), (2, .int y2), (3, .int y3), (4, .int y4)] → W p l e rm_X6_depth s m args below meth c H locs 0 0 (MQ below (gQ D sz ws0 (ws_X6_depth cI cJ cB a0 a_reader a_freer a_scribe a_copy a_above a_below a_formula a_formula_cells a_spans a_found loose formula_rows formula_cells formula_cells_n z.2.1 z.2.2) (some (.int z.1))) args s 0 0 (va_A ws0 sz)) (F0 m 58 ls []) := by
  obtain ⟨F, hr, hlk, hNw⟩ := id CX
  have hx := F.1
  have hb := F.2.1
  have hown := F.2.2.2.1
  have hA : ∀ q, s.heap.size ≤ q → va_A ws0 sz q := fun q hq => Or.inr (hsz ▸ hq)
  intro spans found y1 y2 y3 y4 H locs ls h hP hD hS hl
  unfold f_X6_depth_58 at h
  refine lv_iload hx hb dX6_depth_58 (lv_at hl 4 rfl) ?_
  refine lv_if_lt (tgt := 75) hx hb dX6_depth_60 (by decide) (fun c60 => ?_) (fun c60 => ?_)
  · have h := o_t c60 h
    refine lv_iconst (v := (-1)) hx hb dX6_depth_75 (by decide) ?_
    refine lv_goto (tgt := 80) hx hb dX6_depth_76 (by decide) ?_
    exact w_X6_depth_80 CX hK hsz (hK27 := hK27) spans found y1 y2 y3 y4 (-1) _ _ _ h hP hD hS (lv_sub hl [0, 1, 2, 3, 4] rfl)
  · have h := o_f c60 h
    refine lv_aload_n hx hb dX6_depth_63 rfl (lv_at hl 0 rfl) ?_
    refine r_get F hK hP 0 7 rfl inW_X6 wm_590 rfl (by decide) rfl dX6_depth_64 ?_
    refine lv_iload hx hb dX6_depth_67 (lv_at hl 4 rfl) ?_
    obtain ⟨hi69, h⟩ := o_ix h
    refine va_iald hx hb hK hP 3 0 rfl rfl hi69 dX6_depth_69 ?_
    refine lv_iconst (v := 1) hx hb dX6_depth_70 (by decide) ?_
    refine lv_isub hx hb dX6_depth_71 ?_
    refine lv_goto (tgt := 80) hx hb dX6_depth_72 (by decide) ?_
    exact w_X6_depth_80 CX hK hsz (hK27 := hK27) spans found y1 y2 y3 y4 ((spans y4.toNatClampNeg) - 1) _ _ _ h hP hD hS (lv_sub hl [0, 1, 2, 3, 4] rfl)
set_option maxHeartbeats 4000000 in
set_option maxRecDepth 100000 in
theorem w_X6_depth_157 (CX : Cx p m c cX6_depth 7 s args x0 RX6 meth (some .int)) (hK : va_K D vwCl (ty0 cI cJ cB) s) (hsz : s.heap.size = sz) : ∀ (spans : Nat → Int32) (found : Nat → Int32) (s0 : Int32) (H : Heap) (locs : List Loc) (ls : Array Slot), f_X6_depth_157 N formula_rows formula_cells formula_cells_n spans found s0 = some z → va_P D vwCl (ws_X6_depth cI cJ cB a0 a_reader a_freer a_scribe a_copy a_above a_below a_formula a_formula_cells a_spans a_found loose formula_rows formula_cells formula_cells_n spans found) H → va_D (va_A ws0 sz) (ws_X6_depth cI cJ cB a0 a_reader a_freer a_scribe a_copy a_above a_below a_formula a_formula_cells a_spans a_found loose formula_rows formula_cells formula_cells_n spans found) → va_S (va_A ws0 sz) s.heap H locs → lv_has ls 7 [] → W p l e rm_X6_depth s m args below meth c H locs 0 0 (MQ below (gQ D sz ws0 (ws_X6_depth cI cJ cB a0 a_reader a_freer a_scribe a_copy a_above a_below a_formula a_formula_cells a_spans a_found loose formula_rows formula_cells formula_cells_n z.2.1 z.2.2) (some (.int z.1))) args s 0 0 (va_A ws0 sz)) (F0 m 157 ls [.int s0]) := by
  obtain ⟨F, hr, hlk, hNw⟩ := id CX
  have hx := F.1
  have hb := F.2.1
  have hown := F.2.2.2.1
  have hA : ∀ q, s.heap.size ≤ q → va_A ws0 sz q := fun q hq => Or.inr (hsz ▸ hq)
  intro spans found s0 H locs ls h hP hD hS hl
  unfold f_X6_depth_157 at h
  obtain rfl := Option.some.inj h
  exact r_ret (v := s0) F hr hlk rfl dX6_depth_157 hsz hP hD hS
set_option maxHeartbeats 4000000 in
set_option maxRecDepth 100000 in
theorem w_X6_depth_27 (CX : Cx p m c cX6_depth 7 s args x0 RX6 meth (some .int)) (hK : va_K D vwCl (ty0 cI cJ cB) s) (hsz : s.heap.size = sz) : ∀ (n : Nat), ∀ (spans : Nat → Int32) (found : Nat → Int32) (y1 : Int32) (y2 : Int32) (H : Heap) (locs : List Loc) (ls : Array Slot), f_X6_depth_27 N n formula_rows formula_cells formula_cells_n spans found y1 y2 = some z → va_P D vwCl (ws_X6_depth cI cJ cB a0 a_reader a_freer a_scribe a_copy a_above a_below a_formula a_formula_cells a_spans a_found loose formula_rows formula_cells formula_cells_n spans found) H → va_D (va_A ws0 sz) (ws_X6_depth cI cJ cB a0 a_reader a_freer a_scribe a_copy a_above a_below a_formula a_formula_cells a_spans a_found loose formula_rows formula_cells formula_cells_n spans found) → va_S (va_A ws0 sz) s.heap H locs → lv_has ls 7 [(0, .ref a0), (1, .int y1), (2, .int y2)] → W p l e rm_X6_depth s m args below meth c H locs 0 0 (MQ below (gQ D sz ws0 (ws_X6_depth cI cJ cB a0 a_reader a_freer a_scribe a_copy a_above a_below a_formula a_formula_cells a_spans a_found loose formula_rows formula_cells formula_cells_n z.2.1 z.2.2) (some (.int z.1))) args s 0 0 (va_A ws0 sz)) (F0 m 27 ls []) := by
  obtain ⟨F, hr, hlk, hNw⟩ := id CX
  have hx := F.1
  have hb := F.2.1
  have hown := F.2.2.2.1
  have hA : ∀ q, s.heap.size ≤ q → va_A ws0 sz q := fun q hq => Or.inr (hsz ▸ hq)
  intro n
  induction n with
  | zero =>
    intro spans found y1 y2 H locs ls h
    cases h
  | succ n ih =>
    intro spans found y1 y2 H locs ls h hP hD hS hl
    unfold f_X6_depth_27 at h
    refine lv_iload_n hx hb dX6_depth_27 rfl (lv_at hl 2 rfl) ?_
    refine lv_iload_n hx hb dX6_depth_28 rfl (lv_at hl 1 rfl) ?_
    refine lv_icmp_ge (tgt := 141) hx hb dX6_depth_29 (by decide) (fun c29 => ?_) (fun c29 => ?_)
    · have h := o_t c29 h
      refine lv_iload_n hx hb dX6_depth_141 rfl (lv_at hl 1 rfl) ?_
      refine lv_if_le (tgt := 156) hx hb dX6_depth_142 (by decide) (fun c142 => ?_) (fun c142 => ?_)
      · have h := o_t c142 h
        refine lv_iconst (v := 0) hx hb dX6_depth_156 (by decide) ?_
        exact w_X6_depth_157 CX hK hsz spans found 0 _ _ _ h hP hD hS (lv_sub hl [] rfl)
      · have h := o_f c142 h
        refine lv_aload_n hx hb dX6_depth_145 rfl (lv_at hl 0 rfl) ?_
        refine r_get F hK hP 0 8 rfl inW_X6 wm_591 rfl (by decide) rfl dX6_depth_146 ?_
        refine lv_iload_n hx hb dX6_depth_149 rfl (lv_at hl 1 rfl) ?_
        refine lv_iconst (v := 1) hx hb dX6_depth_150 (by decide) ?_
        refine lv_isub hx hb dX6_depth_151 ?_
        obtain ⟨hi152, h⟩ := o_ix h
        refine va_iald hx hb hK hP 4 0 rfl rfl hi152 dX6_depth_152 ?_
        refine lv_goto (tgt := 157) hx hb dX6_depth_153 (by decide) ?_
        exact w_X6_depth_157 CX hK hsz spans found (found (y1 - 1).toNatClampNeg) _ _ _ h hP hD hS (lv_sub hl [] rfl)
    · have h := o_f c29 h
      refine lv_aload_n hx hb dX6_depth_32 rfl (lv_at hl 0 rfl) ?_
      refine r_get F hK hP 0 3 rfl inW_X6 wm_586 rfl (by decide) rfl dX6_depth_33 ?_
      refine lv_iload_n hx hb dX6_depth_36 rfl (lv_at hl 2 rfl) ?_
      obtain ⟨z37, hz37, h⟩ := o_b h
      refine k_v (wn := (ws_X6_depth cI cJ cB a0 a_reader a_freer a_scribe a_copy a_above a_below a_formula a_formula_cells a_spans a_found loose formula_rows formula_cells formula_cells_n spans found)) (As := [.int y2]) (rest := []) F hNw hK hP hD hS hA (c_X5_kind l D cI cJ cB a_formula a_formula_cells _ formula_rows formula_cells formula_cells_n y2 N hz37) wm_1053 cv_X5_kind [1, 2] [0, 3, 4] [0, 3, 4, 1, 2] (⟨rfl, rfl, rfl, by decide, rfl⟩ : Ix [1, 2] [0, 3, 4] [0, 3, 4, 1, 2] 5) rfl (hN_of 3 5 (by decide +kernel) rfl (by decide +kernel) rfl) rfl rfl rfl rfl ⟨rfl, rfl, by decide, by decide⟩ hl.1 rfl (Nat.le_of_ble_eq_true rfl) ⟨Nat.zero_le _, Nat.zero_le _⟩ dX6_depth_37 (fun H locs hP hD hS => ?_)
      refine lv_istore_n (lv' := [(3, .int z37), (0, .ref a0), (1, .int y1), (2, .int y2)]) hx hb dX6_depth_40 rfl hl (by decide) rfl (fun ls hl => ?_)
      refine lv_iload_n hx hb dX6_depth_41 rfl (lv_at hl 3 rfl) ?_
      refine lv_iconst (v := 1) hx hb dX6_depth_42 (by decide) ?_
      refine lv_isub hx hb dX6_depth_43 ?_
      refine lv_istore (lv' := [(4, .int (y2 - 1)), (3, .int z37), (0, .ref a0), (1, .int y1), (2, .int y2)]) hx hb dX6_depth_44 hl (by decide) rfl (fun ls hl => ?_)
      refine lv_iload_n hx hb dX6_depth_46 rfl (lv_at hl 1 rfl) ?_
      refine lv_bipush (v := 6) hx hb dX6_depth_47 (by decide) ?_
      refine lv_icmp_eq (tgt := 58) hx hb dX6_depth_49 (by decide) (fun c49 => ?_) (fun c49 => ?_)
      · have h := o_t c49 h
        exact w_X6_depth_58 CX hK hsz (hK27 := ih) spans found y1 y2 z37 (y2 - 1) _ _ _ h hP hD hS (lv_sub hl [2, 3, 4, 1, 0] rfl)
      · have h := o_f c49 h
        refine lv_iload_n hx hb dX6_depth_52 rfl (lv_at hl 1 rfl) ?_
        refine lv_bipush (v := 7) hx hb dX6_depth_53 (by decide) ?_
        refine lv_icmp_ne (tgt := 79) hx hb dX6_depth_55 (by decide) (fun c55 => ?_) (fun c55 => ?_)
        · have h := o_f c55 h
          refine lv_iconst (v := (-1)) hx hb dX6_depth_79 (by decide) ?_
          exact w_X6_depth_80 CX hK hsz (hK27 := ih) spans found y1 y2 z37 (y2 - 1) (-1) _ _ _ h hP hD hS (lv_sub hl [2, 3, 4, 1, 0] rfl)
        · have h := o_t c55 h
          exact w_X6_depth_58 CX hK hsz (hK27 := ih) spans found y1 y2 z37 (y2 - 1) _ _ _ h hP hD hS (lv_sub hl [2, 3, 4, 1, 0] rfl)
end G_X6_depth
set_option maxHeartbeats 4000000 in
set_option maxRecDepth 100000 in
theorem c_X6_depth (l : Launch) (D : va_G) (cI cJ cB : ClassId) (a0 a_reader a_freer a_scribe a_copy a_above a_below a_formula a_formula_cells a_spans a_found : Nat) (sz : Nat) (loose : Int32) (formula_rows : Int32) (formula_cells : Nat → Int32) (formula_cells_n : Nat) (spans : Nat → Int32) (found : Nat → Int32) (N : Nat) {z : Int32 × (Nat → Int32) × (Nat → Int32)} (h : f_X6_depth N formula_rows formula_cells formula_cells_n spans found = some z) : Mg l yX6_depth cX6_depth 7 (some .int) rm_X6_depth D (ty0 cI cJ cB) [.ref a0] sz (ws_X6_depth cI cJ cB a0 a_reader a_freer a_scribe a_copy a_above a_below a_formula a_formula_cells a_spans a_found loose formula_rows formula_cells formula_cells_n spans found) (some (.int z.1)) (ws_X6_depth cI cJ cB a0 a_reader a_freer a_scribe a_copy a_above a_below a_formula a_formula_cells a_spans a_found loose formula_rows formula_cells formula_cells_n z.2.1 z.2.2) := by
  refine Mg.of (by decide) (Nat.le_of_ble_eq_true rfl) ?_
  intro p e s m below meth c CX hK hsz hP hD ls hl
  have CX : Cx p m c cX6_depth 7 s ([.ref a0] : List Value).toArray (Cond.code yX6_depth cX6_depth 7 (some .int)) RX6 meth (some .int) := CX
  obtain ⟨F, hr, hlk, hNw⟩ := id CX
  have hx := F.1
  have hb := F.2.1
  have hown := F.2.2.2.1
  have hl : lv_has ls 7 [(0, .ref a0)] := hl
  have hS : va_S (va_A (ws_X6_depth cI cJ cB a0 a_reader a_freer a_scribe a_copy a_above a_below a_formula a_formula_cells a_spans a_found loose formula_rows formula_cells formula_cells_n spans found) sz) s.heap s.heap [] := va_S.rf
  have hA : ∀ q, s.heap.size ≤ q → va_A (ws_X6_depth cI cJ cB a0 a_reader a_freer a_scribe a_copy a_above a_below a_formula a_formula_cells a_spans a_found loose formula_rows formula_cells formula_cells_n spans found) sz q := fun q hq => Or.inr (hsz ▸ hq)
  unfold f_X6_depth at h
  refine lv_aload_n hx hb dX6_depth_0 rfl (lv_at hl 0 rfl) ?_
  refine r_get F hK hP 0 3 rfl inW_X6 wm_586 rfl (by decide) rfl dX6_depth_1 ?_
  refine r_getN F hNw hK hP 1 1 rfl inW_X5 nf_X6_104 rfl (by decide) rfl dX6_depth_4 ?_
  refine lv_sipush (v := 400) hx hb dX6_depth_7 (by decide) ?_
  refine va_mmin hx hb (F.2.2.1.trans hl.1.symm) hown (F.2.2.2.2 _ (q_in wm_977)) (F.2.2.2.2 _ (q_in wm_391)) (F.2.2.2.2 _ (q_in wm_75)) (F.2.2.2.2 _ (q_in wm_392)) (Nat.le_of_ble_eq_true rfl) (Nat.le_of_ble_eq_true rfl) (Nat.zero_le _) (Nat.zero_le _) dX6_depth_10 ?_
  refine lv_istore_n (lv' := [(1, .int (jmin formula_rows 400)), (0, .ref a0)]) hx hb dX6_depth_13 rfl hl (by decide) rfl (fun ls hl => ?_)
  refine lv_aload_n hx hb dX6_depth_14 rfl (lv_at hl 1 rfl) ?_
  refine r_get F hK hP 0 3 rfl inW_X6 wm_586 rfl (by decide) rfl dX6_depth_15 ?_
  refine lv_aload_n hx hb dX6_depth_18 rfl (lv_at hl 1 rfl) ?_
  refine r_get F hK hP 0 7 rfl inW_X6 wm_590 rfl (by decide) rfl dX6_depth_19 ?_
  obtain ⟨z22, hz22, h⟩ := o_b h
  refine k_v (wn := (ws_X6_depth cI cJ cB a0 a_reader a_freer a_scribe a_copy a_above a_below a_formula a_formula_cells a_spans a_found loose formula_rows formula_cells formula_cells_n z22 found)) (As := [.ref a_spans]) (rest := []) F hNw hK hP hD hS hA (c_X5_measure l D cI cJ cB a_formula a_formula_cells a_spans _ formula_rows formula_cells formula_cells_n spans 400 N hz22) wm_1048 cv_X5_measure [1, 2, 3] [0, 4] [0, 2, 3, 4, 1] (⟨rfl, rfl, rfl, by decide, rfl⟩ : Ix [1, 2, 3] [0, 4] [0, 2, 3, 4, 1] 5) rfl (hN_of 2 5 (by decide +kernel) rfl (by decide +kernel) rfl) rfl rfl rfl rfl ⟨rfl, rfl, by decide, by decide⟩ hl.1 rfl (Nat.le_of_ble_eq_true rfl) ⟨Nat.zero_le _, Nat.zero_le _⟩ dX6_depth_22 (fun H locs hP hD hS => ?_)
  refine lv_iconst (v := 0) hx hb dX6_depth_25 (by decide) ?_
  refine lv_istore_n (lv' := [(2, .int 0), (1, .int (jmin formula_rows 400)), (0, .ref a0)]) hx hb dX6_depth_26 rfl hl (by decide) rfl (fun ls hl => ?_)
  exact w_X6_depth_27 CX hK hsz N z22 found (jmin formula_rows 400) 0 _ _ _ h hP hD hS (lv_sub hl [2, 1, 0] rfl)
section G_X6_read
abbrev ws_X6_read (cI cJ cB : ClassId) (a0 a_freer a_scribe a_copy a_above a_below a_spans a_found a_reader a_reader_bytes a_reader_bench a_reader_bench_tree a_reader_bench_tree_cells a_reader_bench_starts a_reader_bench_looses a_reader_sum a_reader_sum_numbers a_reader_waiting a_formula a_formula_cells : Nat) (loose : Int32) (reader_length : Int32) (reader_waits : Int32) (reader_at : Int32) (reader_opened : Int32) (reader_parens : Int32) (reader_great : Int32) (reader_bytes : Nat → Int32) (reader_bench_parts : Int32) (reader_bench_tree_rows : Int32) (reader_bench_tree_cells : Nat → Int32) (reader_bench_tree_cells_n : Nat) (reader_bench_starts : Nat → Int32) (reader_bench_looses : Nat → Int32) (reader_sum_numbers : Nat → Int64) (reader_waiting : Nat → Int32) (formula_rows : Int32) (formula_cells : Nat → Int32) (formula_cells_n : Nat) : va_W := [(a0, .inr (8, [.ref a_reader, .ref a_freer, .ref a_scribe, .ref a_formula, .ref a_copy, .ref a_above, .ref a_below, .ref a_spans, .ref a_found, .int loose])), (a_reader, .inr (4, [.ref a_reader_bytes, .ref a_reader_bench, .ref a_reader_sum, .ref a_reader_waiting, .int reader_length, .int reader_waits, .int reader_at, .int reader_opened, .int reader_parens, .int reader_great])), (a_reader_bytes, .inl (cB, 240, .inl reader_bytes)), (a_reader_bench, .inr (2, [.ref a_reader_bench_tree, .ref a_reader_bench_starts, .ref a_reader_bench_looses, .int reader_bench_parts])), (a_reader_bench_tree, .inr (7, [.ref a_reader_bench_tree_cells, .int reader_bench_tree_rows])), (a_reader_bench_tree_cells, .inl (cI, reader_bench_tree_cells_n, .inl reader_bench_tree_cells)), (a_reader_bench_starts, .inl (cI, 402, .inl reader_bench_starts)), (a_reader_bench_looses, .inl (cI, 402, .inl reader_bench_looses)), (a_reader_sum, .inr (6, [.ref a_reader_sum_numbers])), (a_reader_sum_numbers, .inl (cJ, 9, .inr (.inl reader_sum_numbers))), (a_reader_waiting, .inl (cI, 240, .inl reader_waiting)), (a_formula, .inr (7, [.ref a_formula_cells, .int formula_rows])), (a_formula_cells, .inl (cI, formula_cells_n, .inl formula_cells))]
abbrev rm_X6_read : Room := { frames := 8, cells := 0, slots := 0, locals := 183 }
def f_X6_read_24 (N : Nat) (loose : Int32) (reader_length : Int32) (reader_waits : Int32) (reader_at : Int32) (reader_opened : Int32) (reader_parens : Int32) (reader_great : Int32) (reader_bytes : Nat → Int32) (reader_bench_parts : Int32) (reader_bench_tree_rows : Int32) (reader_bench_tree_cells : Nat → Int32) (reader_bench_tree_cells_n : Nat) (reader_bench_starts : Nat → Int32) (reader_bench_looses : Nat → Int32) (reader_sum_numbers : Nat → Int64) (reader_waiting : Nat → Int32) (formula_rows : Int32) (formula_cells : Nat → Int32) (formula_cells_n : Nat) (y1 : Int32) : Option (Int32 × (Int32) × (Int32) × (Int32) × (Int32) × (Int32) × (Int32) × (Int32) × (Int32) × (Nat → Int32) × (Nat → Int32) × (Nat → Int32) × (Nat → Int64) × (Nat → Int32) × (Int32) × (Nat → Int32)) := some (y1, loose, reader_waits, reader_at, reader_opened, reader_parens, reader_great, reader_bench_parts, reader_bench_tree_rows, reader_bench_tree_cells, reader_bench_starts, reader_bench_looses, reader_sum_numbers, reader_waiting, formula_rows, formula_cells)
def f_X6_read (N : Nat) (loose : Int32) (reader_length : Int32) (reader_waits : Int32) (reader_at : Int32) (reader_opened : Int32) (reader_parens : Int32) (reader_great : Int32) (reader_bytes : Nat → Int32) (reader_bench_parts : Int32) (reader_bench_tree_rows : Int32) (reader_bench_tree_cells : Nat → Int32) (reader_bench_tree_cells_n : Nat) (reader_bench_starts : Nat → Int32) (reader_bench_looses : Nat → Int32) (reader_sum_numbers : Nat → Int64) (reader_waiting : Nat → Int32) (formula_rows : Int32) (formula_cells : Nat → Int32) (formula_cells_n : Nat) : Option (Int32 × (Int32) × (Int32) × (Int32) × (Int32) × (Int32) × (Int32) × (Int32) × (Int32) × (Nat → Int32) × (Nat → Int32) × (Nat → Int32) × (Nat → Int64) × (Nat → Int32) × (Int32) × (Nat → Int32)) := (f_X2_parse N reader_length reader_waits reader_at reader_opened reader_parens reader_great reader_bytes reader_bench_parts reader_bench_tree_rows reader_bench_tree_cells reader_bench_tree_cells_n reader_bench_starts reader_bench_looses reader_sum_numbers reader_waiting).bind (fun z4 => ifb (z4.1 = (-1)) ((f_X6_become N loose formula_rows formula_cells formula_cells_n z4.2.2.2.2.2.2.1 z4.2.2.2.2.2.2.2.1 z4.2.2.2.2.2.2.2.2.1 reader_bench_tree_cells_n z4.2.2.2.2.2.2.2.2.2.2.1).bind (fun z21 => f_X6_read_24 N z21.1 reader_length z4.2.1 z4.2.2.1 z4.2.2.2.1 z4.2.2.2.2.1 z4.2.2.2.2.2.1 reader_bytes z4.2.2.2.2.2.2.1 z4.2.2.2.2.2.2.2.1 z4.2.2.2.2.2.2.2.2.1 reader_bench_tree_cells_n z4.2.2.2.2.2.2.2.2.2.1 z4.2.2.2.2.2.2.2.2.2.2.1 z4.2.2.2.2.2.2.2.2.2.2.2.1 z4.2.2.2.2.2.2.2.2.2.2.2.2 z21.2.1 z21.2.2 formula_cells_n z4.1)) (f_X6_read_24 N loose reader_length z4.2.1 z4.2.2.1 z4.2.2.2.1 z4.2.2.2.2.1 z4.2.2.2.2.2.1 reader_bytes z4.2.2.2.2.2.2.1 z4.2.2.2.2.2.2.2.1 z4.2.2.2.2.2.2.2.2.1 reader_bench_tree_cells_n z4.2.2.2.2.2.2.2.2.2.1 z4.2.2.2.2.2.2.2.2.2.2.1 z4.2.2.2.2.2.2.2.2.2.2.2.1 z4.2.2.2.2.2.2.2.2.2.2.2.2 formula_rows formula_cells formula_cells_n z4.1))
variable {p : Program} {l : Launch} {e : Env} {s : State} {m : MethodId} {below : List Frame} {meth : Method} {c : Code} {args : Array Value} {x0 : Cond} {D : va_G} {cI cJ cB : ClassId} {sz N : Nat} {ws0 : va_W} {a0 a_freer a_scribe a_copy a_above a_below a_spans a_found a_reader a_reader_bytes a_reader_bench a_reader_bench_tree a_reader_bench_tree_cells a_reader_bench_starts a_reader_bench_looses a_reader_sum a_reader_sum_numbers a_reader_waiting a_formula a_formula_cells : Nat} {reader_length : Int32} {reader_bytes : Nat → Int32} {reader_bench_tree_cells_n : Nat} {formula_cells_n : Nat} {z : Int32 × (Int32) × (Int32) × (Int32) × (Int32) × (Int32) × (Int32) × (Int32) × (Int32) × (Nat → Int32) × (Nat → Int32) × (Nat → Int32) × (Nat → Int64) × (Nat → Int32) × (Int32) × (Nat → Int32)}
set_option maxHeartbeats 4000000 in
set_option maxRecDepth 100000 in
theorem w_X6_read_24 (CX : Cx p m c cX6_read 2 s args x0 RX6 meth (some .int)) (hK : va_K D vwCl (ty0 cI cJ cB) s) (hsz : s.heap.size = sz) : ∀ (loose : Int32) (reader_waits : Int32) (reader_at : Int32) (reader_opened : Int32) (reader_parens : Int32) (reader_great : Int32) (reader_bench_parts : Int32) (reader_bench_tree_rows : Int32) (reader_bench_tree_cells : Nat → Int32) (reader_bench_starts : Nat → Int32) (reader_bench_looses : Nat → Int32) (reader_sum_numbers : Nat → Int64) (reader_waiting : Nat → Int32) (formula_rows : Int32) (formula_cells : Nat → Int32) (y1 : Int32) (H : Heap) (locs : List Loc) (ls : Array Slot), f_X6_read_24 N loose reader_length reader_waits reader_at reader_opened reader_parens reader_great reader_bytes reader_bench_parts reader_bench_tree_rows reader_bench_tree_cells reader_bench_tree_cells_n reader_bench_starts reader_bench_looses reader_sum_numbers reader_waiting formula_rows formula_cells formula_cells_n y1 = some z → va_P D vwCl (ws_X6_read cI cJ cB a0 a_freer a_scribe a_copy a_above a_below a_spans a_found a_reader a_reader_bytes a_reader_bench a_reader_bench_tree a_reader_bench_tree_cells a_reader_bench_starts a_reader_bench_looses a_reader_sum a_reader_sum_numbers a_reader_waiting a_formula a_formula_cells loose reader_length reader_waits reader_at reader_opened reader_parens reader_great reader_bytes reader_bench_parts reader_bench_tree_rows reader_bench_tree_cells reader_bench_tree_cells_n reader_bench_starts reader_bench_looses reader_sum_numbers reader_waiting formula_rows formula_cells formula_cells_n) H → va_D (va_A ws0 sz) (ws_X6_read cI cJ cB a0 a_freer a_scribe a_copy a_above a_below a_spans a_found a_reader a_reader_bytes a_reader_bench a_reader_bench_tree a_reader_bench_tree_cells a_reader_bench_starts a_reader_bench_looses a_reader_sum a_reader_sum_numbers a_reader_waiting a_formula a_formula_cells loose reader_length reader_waits reader_at reader_opened reader_parens reader_great reader_bytes reader_bench_parts reader_bench_tree_rows reader_bench_tree_cells reader_bench_tree_cells_n reader_bench_starts reader_bench_looses reader_sum_numbers reader_waiting formula_rows formula_cells formula_cells_n) → va_S (va_A ws0 sz) s.heap H locs → lv_has ls 2 [(1, .int y1)] → W p l e rm_X6_read s m args below meth c H locs 0 0 (MQ below (gQ D sz ws0 (ws_X6_read cI cJ cB a0 a_freer a_scribe a_copy a_above a_below a_spans a_found a_reader a_reader_bytes a_reader_bench a_reader_bench_tree a_reader_bench_tree_cells a_reader_bench_starts a_reader_bench_looses a_reader_sum a_reader_sum_numbers a_reader_waiting a_formula a_formula_cells z.2.1 reader_length z.2.2.1 z.2.2.2.1 z.2.2.2.2.1 z.2.2.2.2.2.1 z.2.2.2.2.2.2.1 reader_bytes z.2.2.2.2.2.2.2.1 z.2.2.2.2.2.2.2.2.1 z.2.2.2.2.2.2.2.2.2.1 reader_bench_tree_cells_n z.2.2.2.2.2.2.2.2.2.2.1 z.2.2.2.2.2.2.2.2.2.2.2.1 z.2.2.2.2.2.2.2.2.2.2.2.2.1 z.2.2.2.2.2.2.2.2.2.2.2.2.2.1 z.2.2.2.2.2.2.2.2.2.2.2.2.2.2.1 z.2.2.2.2.2.2.2.2.2.2.2.2.2.2.2 formula_cells_n) (some (.int z.1))) args s 0 0 (va_A ws0 sz)) (F0 m 24 ls []) := by
  obtain ⟨F, hr, hlk, hNw⟩ := id CX
  have hx := F.1
  have hb := F.2.1
  have hown := F.2.2.2.1
  have hA : ∀ q, s.heap.size ≤ q → va_A ws0 sz q := fun q hq => Or.inr (hsz ▸ hq)
  intro loose reader_waits reader_at reader_opened reader_parens reader_great reader_bench_parts reader_bench_tree_rows reader_bench_tree_cells reader_bench_starts reader_bench_looses reader_sum_numbers reader_waiting formula_rows formula_cells y1 H locs ls h hP hD hS hl
  unfold f_X6_read_24 at h
  refine lv_iload_n hx hb dX6_read_24 rfl (lv_at hl 0 rfl) ?_
  obtain rfl := Option.some.inj h
  exact r_ret (v := y1) F hr hlk rfl dX6_read_25 hsz hP hD hS
end G_X6_read
set_option maxHeartbeats 4000000 in
set_option maxRecDepth 100000 in
theorem c_X6_read (l : Launch) (D : va_G) (cI cJ cB : ClassId) (a0 a_freer a_scribe a_copy a_above a_below a_spans a_found a_reader a_reader_bytes a_reader_bench a_reader_bench_tree a_reader_bench_tree_cells a_reader_bench_starts a_reader_bench_looses a_reader_sum a_reader_sum_numbers a_reader_waiting a_formula a_formula_cells : Nat) (sz : Nat) (loose : Int32) (reader_length : Int32) (reader_waits : Int32) (reader_at : Int32) (reader_opened : Int32) (reader_parens : Int32) (reader_great : Int32) (reader_bytes : Nat → Int32) (reader_bench_parts : Int32) (reader_bench_tree_rows : Int32) (reader_bench_tree_cells : Nat → Int32) (reader_bench_tree_cells_n : Nat) (reader_bench_starts : Nat → Int32) (reader_bench_looses : Nat → Int32) (reader_sum_numbers : Nat → Int64) (reader_waiting : Nat → Int32) (formula_rows : Int32) (formula_cells : Nat → Int32) (formula_cells_n : Nat) (N : Nat) {z : Int32 × (Int32) × (Int32) × (Int32) × (Int32) × (Int32) × (Int32) × (Int32) × (Int32) × (Nat → Int32) × (Nat → Int32) × (Nat → Int32) × (Nat → Int64) × (Nat → Int32) × (Int32) × (Nat → Int32)} (h : f_X6_read N loose reader_length reader_waits reader_at reader_opened reader_parens reader_great reader_bytes reader_bench_parts reader_bench_tree_rows reader_bench_tree_cells reader_bench_tree_cells_n reader_bench_starts reader_bench_looses reader_sum_numbers reader_waiting formula_rows formula_cells formula_cells_n = some z) : Mg l yX6_read cX6_read 2 (some .int) rm_X6_read D (ty0 cI cJ cB) [.ref a0] sz (ws_X6_read cI cJ cB a0 a_freer a_scribe a_copy a_above a_below a_spans a_found a_reader a_reader_bytes a_reader_bench a_reader_bench_tree a_reader_bench_tree_cells a_reader_bench_starts a_reader_bench_looses a_reader_sum a_reader_sum_numbers a_reader_waiting a_formula a_formula_cells loose reader_length reader_waits reader_at reader_opened reader_parens reader_great reader_bytes reader_bench_parts reader_bench_tree_rows reader_bench_tree_cells reader_bench_tree_cells_n reader_bench_starts reader_bench_looses reader_sum_numbers reader_waiting formula_rows formula_cells formula_cells_n) (some (.int z.1)) (ws_X6_read cI cJ cB a0 a_freer a_scribe a_copy a_above a_below a_spans a_found a_reader a_reader_bytes a_reader_bench a_reader_bench_tree a_reader_bench_tree_cells a_reader_bench_starts a_reader_bench_looses a_reader_sum a_reader_sum_numbers a_reader_waiting a_formula a_formula_cells z.2.1 reader_length z.2.2.1 z.2.2.2.1 z.2.2.2.2.1 z.2.2.2.2.2.1 z.2.2.2.2.2.2.1 reader_bytes z.2.2.2.2.2.2.2.1 z.2.2.2.2.2.2.2.2.1 z.2.2.2.2.2.2.2.2.2.1 reader_bench_tree_cells_n z.2.2.2.2.2.2.2.2.2.2.1 z.2.2.2.2.2.2.2.2.2.2.2.1 z.2.2.2.2.2.2.2.2.2.2.2.2.1 z.2.2.2.2.2.2.2.2.2.2.2.2.2.1 z.2.2.2.2.2.2.2.2.2.2.2.2.2.2.1 z.2.2.2.2.2.2.2.2.2.2.2.2.2.2.2 formula_cells_n) := by
  refine Mg.of (by decide) (Nat.le_of_ble_eq_true rfl) ?_
  intro p e s m below meth c CX hK hsz hP hD ls hl
  have CX : Cx p m c cX6_read 2 s ([.ref a0] : List Value).toArray (Cond.code yX6_read cX6_read 2 (some .int)) RX6 meth (some .int) := CX
  obtain ⟨F, hr, hlk, hNw⟩ := id CX
  have hx := F.1
  have hb := F.2.1
  have hown := F.2.2.2.1
  have hl : lv_has ls 2 [(0, .ref a0)] := hl
  have hS : va_S (va_A (ws_X6_read cI cJ cB a0 a_freer a_scribe a_copy a_above a_below a_spans a_found a_reader a_reader_bytes a_reader_bench a_reader_bench_tree a_reader_bench_tree_cells a_reader_bench_starts a_reader_bench_looses a_reader_sum a_reader_sum_numbers a_reader_waiting a_formula a_formula_cells loose reader_length reader_waits reader_at reader_opened reader_parens reader_great reader_bytes reader_bench_parts reader_bench_tree_rows reader_bench_tree_cells reader_bench_tree_cells_n reader_bench_starts reader_bench_looses reader_sum_numbers reader_waiting formula_rows formula_cells formula_cells_n) sz) s.heap s.heap [] := va_S.rf
  have hA : ∀ q, s.heap.size ≤ q → va_A (ws_X6_read cI cJ cB a0 a_freer a_scribe a_copy a_above a_below a_spans a_found a_reader a_reader_bytes a_reader_bench a_reader_bench_tree a_reader_bench_tree_cells a_reader_bench_starts a_reader_bench_looses a_reader_sum a_reader_sum_numbers a_reader_waiting a_formula a_formula_cells loose reader_length reader_waits reader_at reader_opened reader_parens reader_great reader_bytes reader_bench_parts reader_bench_tree_rows reader_bench_tree_cells reader_bench_tree_cells_n reader_bench_starts reader_bench_looses reader_sum_numbers reader_waiting formula_rows formula_cells formula_cells_n) sz q := fun q hq => Or.inr (hsz ▸ hq)
  unfold f_X6_read at h
  refine lv_aload_n hx hb dX6_read_0 rfl (lv_at hl 0 rfl) ?_
  refine r_get F hK hP 0 0 rfl inW_X6 wm_583 rfl (by decide) rfl dX6_read_1 ?_
  obtain ⟨z4, hz4, h⟩ := o_b h
  refine k_v (wn := (ws_X6_read cI cJ cB a0 a_freer a_scribe a_copy a_above a_below a_spans a_found a_reader a_reader_bytes a_reader_bench a_reader_bench_tree a_reader_bench_tree_cells a_reader_bench_starts a_reader_bench_looses a_reader_sum a_reader_sum_numbers a_reader_waiting a_formula a_formula_cells loose reader_length z4.2.1 z4.2.2.1 z4.2.2.2.1 z4.2.2.2.2.1 z4.2.2.2.2.2.1 reader_bytes z4.2.2.2.2.2.2.1 z4.2.2.2.2.2.2.2.1 z4.2.2.2.2.2.2.2.2.1 reader_bench_tree_cells_n z4.2.2.2.2.2.2.2.2.2.1 z4.2.2.2.2.2.2.2.2.2.2.1 z4.2.2.2.2.2.2.2.2.2.2.2.1 z4.2.2.2.2.2.2.2.2.2.2.2.2 formula_rows formula_cells formula_cells_n)) (As := []) (rest := []) F hNw hK hP hD hS hA (c_X2_parse l D cI cJ cB a_reader a_reader_bytes a_reader_bench a_reader_bench_tree a_reader_bench_tree_cells a_reader_bench_starts a_reader_bench_looses a_reader_sum a_reader_sum_numbers a_reader_waiting _ reader_length reader_waits reader_at reader_opened reader_parens reader_great reader_bytes reader_bench_parts reader_bench_tree_rows reader_bench_tree_cells reader_bench_tree_cells_n reader_bench_starts reader_bench_looses reader_sum_numbers reader_waiting N hz4) wm_622 cv_X2_parse [1, 2, 3, 4, 5, 6, 7, 8, 9, 10] [0, 11, 12] [0, 3, 4, 5, 6, 7, 8, 9, 10, 11, 12, 1, 2] (⟨rfl, rfl, rfl, by decide, rfl⟩ : Ix [1, 2, 3, 4, 5, 6, 7, 8, 9, 10] [0, 11, 12] [0, 3, 4, 5, 6, 7, 8, 9, 10, 11, 12, 1, 2] 13) rfl (hN_of 3 13 (by decide +kernel) rfl (by decide +kernel) rfl) rfl rfl rfl rfl ⟨rfl, rfl, by decide, by decide⟩ hl.1 rfl (Nat.le_of_ble_eq_true rfl) ⟨Nat.zero_le _, Nat.zero_le _⟩ dX6_read_4 (fun H locs hP hD hS => ?_)
  refine lv_istore_n (lv' := [(1, .int z4.1), (0, .ref a0)]) hx hb dX6_read_7 rfl hl (by decide) rfl (fun ls hl => ?_)
  refine lv_iload_n hx hb dX6_read_8 rfl (lv_at hl 0 rfl) ?_
  refine lv_iconst (v := (-1)) hx hb dX6_read_9 (by decide) ?_
  refine lv_icmp_ne (tgt := 24) hx hb dX6_read_10 (by decide) (fun c10 => ?_) (fun c10 => ?_)
  · have h := o_f c10 h
    exact w_X6_read_24 CX hK hsz loose z4.2.1 z4.2.2.1 z4.2.2.2.1 z4.2.2.2.2.1 z4.2.2.2.2.2.1 z4.2.2.2.2.2.2.1 z4.2.2.2.2.2.2.2.1 z4.2.2.2.2.2.2.2.2.1 z4.2.2.2.2.2.2.2.2.2.1 z4.2.2.2.2.2.2.2.2.2.2.1 z4.2.2.2.2.2.2.2.2.2.2.2.1 z4.2.2.2.2.2.2.2.2.2.2.2.2 formula_rows formula_cells z4.1 _ _ _ h hP hD hS (lv_sub hl [0] rfl)
  · have h := o_t c10 h
    refine lv_aload_n hx hb dX6_read_13 rfl (lv_at hl 1 rfl) ?_
    refine lv_aload_n hx hb dX6_read_14 rfl (lv_at hl 1 rfl) ?_
    refine r_get F hK hP 0 0 rfl inW_X6 wm_583 rfl (by decide) rfl dX6_read_15 ?_
    refine r_getN F hNw hK hP 1 1 rfl inW_X2 nf_X6_88 rfl (by decide) rfl dX6_read_18 ?_
    obtain ⟨z21, hz21, h⟩ := o_b h
    refine k_v (wn := (ws_X6_read cI cJ cB a0 a_freer a_scribe a_copy a_above a_below a_spans a_found a_reader a_reader_bytes a_reader_bench a_reader_bench_tree a_reader_bench_tree_cells a_reader_bench_starts a_reader_bench_looses a_reader_sum a_reader_sum_numbers a_reader_waiting a_formula a_formula_cells z21.1 reader_length z4.2.1 z4.2.2.1 z4.2.2.2.1 z4.2.2.2.2.1 z4.2.2.2.2.2.1 reader_bytes z4.2.2.2.2.2.2.1 z4.2.2.2.2.2.2.2.1 z4.2.2.2.2.2.2.2.2.1 reader_bench_tree_cells_n z4.2.2.2.2.2.2.2.2.2.1 z4.2.2.2.2.2.2.2.2.2.2.1 z4.2.2.2.2.2.2.2.2.2.2.2.1 z4.2.2.2.2.2.2.2.2.2.2.2.2 z21.2.1 z21.2.2 formula_cells_n)) (As := [.ref a_reader_bench]) (rest := []) F hNw hK hP hD hS hA (c_X6_become l D cI cJ cB a0 a_reader a_freer a_scribe a_copy a_above a_below a_spans a_found a_formula a_formula_cells a_reader_bench a_reader_bench_starts a_reader_bench_tree a_reader_bench_tree_cells a_reader_bench_looses _ loose formula_rows formula_cells formula_cells_n z4.2.2.2.2.2.2.1 z4.2.2.2.2.2.2.2.1 z4.2.2.2.2.2.2.2.2.1 reader_bench_tree_cells_n z4.2.2.2.2.2.2.2.2.2.2.1 N hz21) wm_803 cv_X6_become [0, 11, 12, 3, 4, 5, 7] [1, 2, 6, 8, 9, 10] [6, 0, 1, 9, 10, 11, 2, 12, 3, 4, 5, 7, 8] (⟨rfl, rfl, rfl, by decide, rfl⟩ : Ix [0, 11, 12, 3, 4, 5, 7] [1, 2, 6, 8, 9, 10] [6, 0, 1, 9, 10, 11, 2, 12, 3, 4, 5, 7, 8] 13) rfl (hN_of 6 13 (by decide +kernel) rfl (by decide +kernel) rfl) rfl rfl rfl rfl ⟨rfl, rfl, by decide, by decide⟩ hl.1 rfl (Nat.le_of_ble_eq_true rfl) ⟨Nat.zero_le _, Nat.zero_le _⟩ dX6_read_21 (fun H locs hP hD hS => ?_)
    exact w_X6_read_24 CX hK hsz z21.1 z4.2.1 z4.2.2.1 z4.2.2.2.1 z4.2.2.2.2.1 z4.2.2.2.2.2.1 z4.2.2.2.2.2.2.1 z4.2.2.2.2.2.2.2.1 z4.2.2.2.2.2.2.2.2.1 z4.2.2.2.2.2.2.2.2.2.1 z4.2.2.2.2.2.2.2.2.2.2.1 z4.2.2.2.2.2.2.2.2.2.2.2.1 z4.2.2.2.2.2.2.2.2.2.2.2.2 z21.2.1 z21.2.2 z4.1 _ _ _ h hP hD hS (lv_sub hl [0] rfl)
section G_X6_frees
abbrev ws_X6_frees (cI cJ cB : ClassId) (a0 a_reader a_scribe a_copy a_above a_below a_spans a_found a_freer a_freer_spans a_freer_bound a_freer_bench a_freer_bench_tree a_freer_bench_tree_cells a_freer_bench_starts a_freer_bench_looses a_freer_body a_freer_body_cells a_freer_sum a_freer_sum_numbers a_freer_rowsOfPoints a_formula a_formula_cells : Nat) (loose : Int32) (freer_points : Int32) (freer_pointsPut : Int32) (freer_takenOut : Int32) (freer_bench_parts : Int32) (freer_bench_tree_rows : Int32) (freer_bench_tree_cells : Nat → Int32) (freer_bench_tree_cells_n : Nat) (freer_bench_starts : Nat → Int32) (freer_bench_looses : Nat → Int32) (freer_body_rows : Int32) (freer_body_cells : Nat → Int32) (freer_body_cells_n : Nat) (freer_sum_numbers : Nat → Int64) (freer_rowsOfPoints : Nat → Int32) (formula_rows : Int32) (formula_cells : Nat → Int32) (formula_cells_n : Nat) : va_W := [(a0, .inr (8, [.ref a_reader, .ref a_freer, .ref a_scribe, .ref a_formula, .ref a_copy, .ref a_above, .ref a_below, .ref a_spans, .ref a_found, .int loose])), (a_freer, .inr (3, [.ref a_freer_bench, .ref a_freer_body, .ref a_freer_sum, .ref a_freer_rowsOfPoints, .ref a_freer_spans, .ref a_freer_bound, .int freer_points, .int freer_pointsPut, .int freer_takenOut])), (a_freer_bench, .inr (2, [.ref a_freer_bench_tree, .ref a_freer_bench_starts, .ref a_freer_bench_looses, .int freer_bench_parts])), (a_freer_bench_tree, .inr (7, [.ref a_freer_bench_tree_cells, .int freer_bench_tree_rows])), (a_freer_bench_tree_cells, .inl (cI, freer_bench_tree_cells_n, .inl freer_bench_tree_cells)), (a_freer_bench_starts, .inl (cI, 402, .inl freer_bench_starts)), (a_freer_bench_looses, .inl (cI, 402, .inl freer_bench_looses)), (a_freer_body, .inr (7, [.ref a_freer_body_cells, .int freer_body_rows])), (a_freer_body_cells, .inl (cI, freer_body_cells_n, .inl freer_body_cells)), (a_freer_sum, .inr (6, [.ref a_freer_sum_numbers])), (a_freer_sum_numbers, .inl (cJ, 9, .inr (.inl freer_sum_numbers))), (a_freer_rowsOfPoints, .inl (cI, 4411, .inl freer_rowsOfPoints)), (a_formula, .inr (7, [.ref a_formula_cells, .int formula_rows])), (a_formula_cells, .inl (cI, formula_cells_n, .inl formula_cells))]
abbrev rm_X6_frees (k : Nat) : Room := { frames := 8, cells := k, slots := 100000 * k, locals := 196 }
def f_X6_frees_11 (N : Nat) (loose : Int32) (freer_points : Int32) (freer_pointsPut : Int32) (freer_takenOut : Int32) (freer_bench_parts : Int32) (freer_bench_tree_rows : Int32) (freer_bench_tree_cells : Nat → Int32) (freer_bench_tree_cells_n : Nat) (freer_bench_starts : Nat → Int32) (freer_bench_looses : Nat → Int32) (freer_body_rows : Int32) (freer_body_cells : Nat → Int32) (freer_body_cells_n : Nat) (freer_sum_numbers : Nat → Int64) (freer_rowsOfPoints : Nat → Int32) (formula_rows : Int32) (formula_cells : Nat → Int32) (formula_cells_n : Nat) (s0 : Int32) : Option (Int32 × (Int32) × (Int32) × (Int32) × (Int32) × (Int32) × (Int32) × (Nat → Int32) × (Nat) × (Nat → Int32) × (Nat → Int32) × (Int32) × (Nat → Int32) × (Nat → Int64) × (Nat → Int32) × (Int32) × (Nat → Int32)) := ifb (s0 = 0) (some ((-2), loose, freer_points, freer_pointsPut, freer_takenOut, freer_bench_parts, freer_bench_tree_rows, freer_bench_tree_cells, freer_bench_tree_cells_n, freer_bench_starts, freer_bench_looses, freer_body_rows, freer_body_cells, freer_sum_numbers, freer_rowsOfPoints, formula_rows, formula_cells)) ((f_X6_become N loose formula_rows formula_cells formula_cells_n freer_bench_parts freer_bench_tree_rows freer_bench_tree_cells freer_bench_tree_cells_n freer_bench_looses).bind (fun z25 => some (z25.2.1, z25.1, freer_points, freer_pointsPut, freer_takenOut, freer_bench_parts, freer_bench_tree_rows, freer_bench_tree_cells, freer_bench_tree_cells_n, freer_bench_starts, freer_bench_looses, freer_body_rows, freer_body_cells, freer_sum_numbers, freer_rowsOfPoints, z25.2.1, z25.2.2)))
def f_X6_frees (N : Nat) (loose : Int32) (freer_points : Int32) (freer_pointsPut : Int32) (freer_takenOut : Int32) (freer_bench_parts : Int32) (freer_bench_tree_rows : Int32) (freer_bench_tree_cells : Nat → Int32) (freer_bench_tree_cells_n : Nat) (freer_bench_starts : Nat → Int32) (freer_bench_looses : Nat → Int32) (freer_body_rows : Int32) (freer_body_cells : Nat → Int32) (freer_body_cells_n : Nat) (freer_sum_numbers : Nat → Int64) (freer_rowsOfPoints : Nat → Int32) (formula_rows : Int32) (formula_cells : Nat → Int32) (formula_cells_n : Nat) : Option (Int32 × (Int32) × (Int32) × (Int32) × (Int32) × (Int32) × (Int32) × (Nat → Int32) × (Nat) × (Nat → Int32) × (Nat → Int32) × (Int32) × (Nat → Int32) × (Nat → Int64) × (Nat → Int32) × (Int32) × (Nat → Int32)) := (f_X1_run N freer_points freer_pointsPut freer_takenOut freer_bench_parts freer_bench_tree_rows freer_bench_tree_cells freer_bench_tree_cells_n freer_bench_starts freer_bench_looses freer_body_rows freer_body_cells freer_body_cells_n freer_sum_numbers freer_rowsOfPoints formula_rows formula_cells formula_cells_n).bind (fun z8 => f_X6_frees_11 N loose z8.2.1 z8.2.2.1 z8.2.2.2.1 z8.2.2.2.2.1 z8.2.2.2.2.2.1 z8.2.2.2.2.2.2.1 z8.2.2.2.2.2.2.2.1 z8.2.2.2.2.2.2.2.2.1 z8.2.2.2.2.2.2.2.2.2.1 z8.2.2.2.2.2.2.2.2.2.2.1 z8.2.2.2.2.2.2.2.2.2.2.2.1 freer_body_cells_n z8.2.2.2.2.2.2.2.2.2.2.2.2.1 z8.2.2.2.2.2.2.2.2.2.2.2.2.2 formula_rows formula_cells formula_cells_n z8.1)
theorem m_X6_frees_11 {N : Nat} : ∀ (loose : Int32) (freer_points : Int32) (freer_pointsPut : Int32) (freer_takenOut : Int32) (freer_bench_parts : Int32) (freer_bench_tree_rows : Int32) (freer_bench_tree_cells : Nat → Int32) (freer_bench_tree_cells_n : Nat) (freer_bench_starts : Nat → Int32) (freer_bench_looses : Nat → Int32) (freer_body_rows : Int32) (freer_body_cells : Nat → Int32) (freer_body_cells_n : Nat) (freer_sum_numbers : Nat → Int64) (freer_rowsOfPoints : Nat → Int32) (formula_rows : Int32) (formula_cells : Nat → Int32) (formula_cells_n : Nat) (s0 : Int32), Mo freer_bench_tree_cells_n (fun z : Int32 × (Int32) × (Int32) × (Int32) × (Int32) × (Int32) × (Int32) × (Nat → Int32) × (Nat) × (Nat → Int32) × (Nat → Int32) × (Int32) × (Nat → Int32) × (Nat → Int64) × (Nat → Int32) × (Int32) × (Nat → Int32) => z.2.2.2.2.2.2.2.2.1) (f_X6_frees_11 N loose freer_points freer_pointsPut freer_takenOut freer_bench_parts freer_bench_tree_rows freer_bench_tree_cells freer_bench_tree_cells_n freer_bench_starts freer_bench_looses freer_body_rows freer_body_cells freer_body_cells_n freer_sum_numbers freer_rowsOfPoints formula_rows formula_cells formula_cells_n s0) := by
  intro loose freer_points freer_pointsPut freer_takenOut freer_bench_parts freer_bench_tree_rows freer_bench_tree_cells freer_bench_tree_cells_n freer_bench_starts freer_bench_looses freer_body_rows freer_body_cells freer_body_cells_n freer_sum_numbers freer_rowsOfPoints formula_rows formula_cells formula_cells_n s0
  unfold f_X6_frees_11
  repeat' (first | with_reducible exact Mo.none | (with_reducible refine Mo.some ?_; exact Nat.le_refl _) | with_reducible refine Mo.ifb ?_ ?_ | with_reducible refine Mo.ix ?_ | with_reducible refine Mo.ckp ?_ | with_reducible refine Mo.bind (fun z hz => ?_))
theorem m_X6_frees {N : Nat} : ∀ (loose : Int32) (freer_points : Int32) (freer_pointsPut : Int32) (freer_takenOut : Int32) (freer_bench_parts : Int32) (freer_bench_tree_rows : Int32) (freer_bench_tree_cells : Nat → Int32) (freer_bench_tree_cells_n : Nat) (freer_bench_starts : Nat → Int32) (freer_bench_looses : Nat → Int32) (freer_body_rows : Int32) (freer_body_cells : Nat → Int32) (freer_body_cells_n : Nat) (freer_sum_numbers : Nat → Int64) (freer_rowsOfPoints : Nat → Int32) (formula_rows : Int32) (formula_cells : Nat → Int32) (formula_cells_n : Nat), Mo freer_bench_tree_cells_n (fun z : Int32 × (Int32) × (Int32) × (Int32) × (Int32) × (Int32) × (Int32) × (Nat → Int32) × (Nat) × (Nat → Int32) × (Nat → Int32) × (Int32) × (Nat → Int32) × (Nat → Int64) × (Nat → Int32) × (Int32) × (Nat → Int32) => z.2.2.2.2.2.2.2.2.1) (f_X6_frees N loose freer_points freer_pointsPut freer_takenOut freer_bench_parts freer_bench_tree_rows freer_bench_tree_cells freer_bench_tree_cells_n freer_bench_starts freer_bench_looses freer_body_rows freer_body_cells freer_body_cells_n freer_sum_numbers freer_rowsOfPoints formula_rows formula_cells formula_cells_n) := by
  intro loose freer_points freer_pointsPut freer_takenOut freer_bench_parts freer_bench_tree_rows freer_bench_tree_cells freer_bench_tree_cells_n freer_bench_starts freer_bench_looses freer_body_rows freer_body_cells freer_body_cells_n freer_sum_numbers freer_rowsOfPoints formula_rows formula_cells formula_cells_n
  unfold f_X6_frees
  repeat' (first | with_reducible exact Mo.none | (with_reducible refine Mo.some ?_; exact Nat.le_refl _) | with_reducible refine Mo.ifb ?_ ?_ | with_reducible refine Mo.ix ?_ | with_reducible refine Mo.ckp ?_ | (with_reducible apply m_X6_frees_11) | (with_reducible refine Mo.trans (mo_X1_run hz) ?_; with_reducible apply m_X6_frees_11) | (with_reducible refine Mo.trans (mo_X1_run hz) ?_; with_reducible refine Mo.some ?_; exact Nat.le_refl _) | with_reducible refine Mo.bind (fun z hz => ?_))
theorem mo_X6_frees {N : Nat} {loose : Int32} {freer_points : Int32} {freer_pointsPut : Int32} {freer_takenOut : Int32} {freer_bench_parts : Int32} {freer_bench_tree_rows : Int32} {freer_bench_tree_cells : Nat → Int32} {freer_bench_tree_cells_n : Nat} {freer_bench_starts : Nat → Int32} {freer_bench_looses : Nat → Int32} {freer_body_rows : Int32} {freer_body_cells : Nat → Int32} {freer_body_cells_n : Nat} {freer_sum_numbers : Nat → Int64} {freer_rowsOfPoints : Nat → Int32} {formula_rows : Int32} {formula_cells : Nat → Int32} {formula_cells_n : Nat} {z : Int32 × (Int32) × (Int32) × (Int32) × (Int32) × (Int32) × (Int32) × (Nat → Int32) × (Nat) × (Nat → Int32) × (Nat → Int32) × (Int32) × (Nat → Int32) × (Nat → Int64) × (Nat → Int32) × (Int32) × (Nat → Int32)} (h : f_X6_frees N loose freer_points freer_pointsPut freer_takenOut freer_bench_parts freer_bench_tree_rows freer_bench_tree_cells freer_bench_tree_cells_n freer_bench_starts freer_bench_looses freer_body_rows freer_body_cells freer_body_cells_n freer_sum_numbers freer_rowsOfPoints formula_rows formula_cells formula_cells_n = some z) : ph z.2.2.2.2.2.2.2.2.1 ≤ ph freer_bench_tree_cells_n := m_X6_frees loose freer_points freer_pointsPut freer_takenOut freer_bench_parts freer_bench_tree_rows freer_bench_tree_cells freer_bench_tree_cells_n freer_bench_starts freer_bench_looses freer_body_rows freer_body_cells freer_body_cells_n freer_sum_numbers freer_rowsOfPoints formula_rows formula_cells formula_cells_n z h
variable {p : Program} {l : Launch} {e : Env} {s : State} {m : MethodId} {below : List Frame} {meth : Method} {c : Code} {args : Array Value} {x0 : Cond} {D : va_G} {cI cJ cB : ClassId} {sz N : Nat} {ws0 : va_W} {a0 a_reader a_scribe a_copy a_above a_below a_spans a_found a_freer a_freer_spans a_freer_bound a_freer_bench a_freer_bench_tree a_freer_bench_starts a_freer_bench_looses a_freer_body a_freer_body_cells a_freer_sum a_freer_sum_numbers a_freer_rowsOfPoints a_formula a_formula_cells : Nat} {gn0 : Nat} {freer_body_cells_n : Nat} {formula_cells_n : Nat} {z : Int32 × (Int32) × (Int32) × (Int32) × (Int32) × (Int32) × (Int32) × (Nat → Int32) × (Nat) × (Nat → Int32) × (Nat → Int32) × (Int32) × (Nat → Int32) × (Nat → Int64) × (Nat → Int32) × (Int32) × (Nat → Int32)}
set_option maxHeartbeats 4000000 in
set_option maxRecDepth 100000 in
theorem w_X6_frees_11 (CX : Cx p m c cX6_frees 1 s args x0 RX6 meth (some .int)) (hK : va_K D vwCl (ty0 cI cJ cB) s) (hsz : s.heap.size = sz) : ∀ (a_freer_bench_tree_cells : Nat) (loose : Int32) (freer_points : Int32) (freer_pointsPut : Int32) (freer_takenOut : Int32) (freer_bench_parts : Int32) (freer_bench_tree_rows : Int32) (freer_bench_tree_cells : Nat → Int32) (freer_bench_tree_cells_n : Nat) (freer_bench_starts : Nat → Int32) (freer_bench_looses : Nat → Int32) (freer_body_rows : Int32) (freer_body_cells : Nat → Int32) (freer_sum_numbers : Nat → Int64) (freer_rowsOfPoints : Nat → Int32) (formula_rows : Int32) (formula_cells : Nat → Int32) (s0 : Int32) (H : Heap) (locs : List Loc) (ls : Array Slot), f_X6_frees_11 N loose freer_points freer_pointsPut freer_takenOut freer_bench_parts freer_bench_tree_rows freer_bench_tree_cells freer_bench_tree_cells_n freer_bench_starts freer_bench_looses freer_body_rows freer_body_cells freer_body_cells_n freer_sum_numbers freer_rowsOfPoints formula_rows formula_cells formula_cells_n s0 = some z → va_P D vwCl (ws_X6_frees cI cJ cB a0 a_reader a_scribe a_copy a_above a_below a_spans a_found a_freer a_freer_spans a_freer_bound a_freer_bench a_freer_bench_tree a_freer_bench_tree_cells a_freer_bench_starts a_freer_bench_looses a_freer_body a_freer_body_cells a_freer_sum a_freer_sum_numbers a_freer_rowsOfPoints a_formula a_formula_cells loose freer_points freer_pointsPut freer_takenOut freer_bench_parts freer_bench_tree_rows freer_bench_tree_cells freer_bench_tree_cells_n freer_bench_starts freer_bench_looses freer_body_rows freer_body_cells freer_body_cells_n freer_sum_numbers freer_rowsOfPoints formula_rows formula_cells formula_cells_n) H → va_D (va_A ws0 sz) (ws_X6_frees cI cJ cB a0 a_reader a_scribe a_copy a_above a_below a_spans a_found a_freer a_freer_spans a_freer_bound a_freer_bench a_freer_bench_tree a_freer_bench_tree_cells a_freer_bench_starts a_freer_bench_looses a_freer_body a_freer_body_cells a_freer_sum a_freer_sum_numbers a_freer_rowsOfPoints a_formula a_formula_cells loose freer_points freer_pointsPut freer_takenOut freer_bench_parts freer_bench_tree_rows freer_bench_tree_cells freer_bench_tree_cells_n freer_bench_starts freer_bench_looses freer_body_rows freer_body_cells freer_body_cells_n freer_sum_numbers freer_rowsOfPoints formula_rows formula_cells formula_cells_n) → va_S (va_A ws0 sz) s.heap H locs → lv_has ls 1 [(0, .ref a0)] → ph freer_bench_tree_cells_n ≤ ph gn0 → W p l e (rm_X6_frees (ph gn0 - ph z.2.2.2.2.2.2.2.2.1)) s m args below meth c H locs (ph gn0 - ph freer_bench_tree_cells_n) (100000 * (ph gn0 - ph freer_bench_tree_cells_n)) (MQ below (xQ D sz ws0 (fun q => (ws_X6_frees cI cJ cB a0 a_reader a_scribe a_copy a_above a_below a_spans a_found a_freer a_freer_spans a_freer_bound a_freer_bench a_freer_bench_tree q a_freer_bench_starts a_freer_bench_looses a_freer_body a_freer_body_cells a_freer_sum a_freer_sum_numbers a_freer_rowsOfPoints a_formula a_formula_cells z.2.1 z.2.2.1 z.2.2.2.1 z.2.2.2.2.1 z.2.2.2.2.2.1 z.2.2.2.2.2.2.1 z.2.2.2.2.2.2.2.1 z.2.2.2.2.2.2.2.2.1 z.2.2.2.2.2.2.2.2.2.1 z.2.2.2.2.2.2.2.2.2.2.1 z.2.2.2.2.2.2.2.2.2.2.2.1 z.2.2.2.2.2.2.2.2.2.2.2.2.1 freer_body_cells_n z.2.2.2.2.2.2.2.2.2.2.2.2.2.1 z.2.2.2.2.2.2.2.2.2.2.2.2.2.2.1 z.2.2.2.2.2.2.2.2.2.2.2.2.2.2.2.1 z.2.2.2.2.2.2.2.2.2.2.2.2.2.2.2.2 formula_cells_n)) (fun _ => (some (.int z.1)))) args s (ph gn0 - ph z.2.2.2.2.2.2.2.2.1) (100000 * (ph gn0 - ph z.2.2.2.2.2.2.2.2.1)) (va_A ws0 sz)) (F0 m 11 ls [.int s0]) := by
  obtain ⟨F, hr, hlk, hNw⟩ := id CX
  have hx := F.1
  have hb := F.2.1
  have hown := F.2.2.2.1
  have hA : ∀ q, s.heap.size ≤ q → va_A ws0 sz q := fun q hq => Or.inr (hsz ▸ hq)
  intro a_freer_bench_tree_cells loose freer_points freer_pointsPut freer_takenOut freer_bench_parts freer_bench_tree_rows freer_bench_tree_cells freer_bench_tree_cells_n freer_bench_starts freer_bench_looses freer_body_rows freer_body_cells freer_sum_numbers freer_rowsOfPoints formula_rows formula_cells s0 H locs ls h hP hD hS hl hph
  have hm : ph z.2.2.2.2.2.2.2.2.1 ≤ ph freer_bench_tree_cells_n := by apply m_X6_frees_11; exact h
  have hq1 : ph gn0 - ph freer_bench_tree_cells_n ≤ ph gn0 - ph z.2.2.2.2.2.2.2.2.1 := by omega
  have hq2 : 100000 * (ph gn0 - ph freer_bench_tree_cells_n) ≤ 100000 * (ph gn0 - ph z.2.2.2.2.2.2.2.2.1) := by omega
  unfold f_X6_frees_11 at h
  refine lv_if_ne (tgt := 17) hx hb dX6_frees_11 (by decide) (fun c11 => ?_) (fun c11 => ?_)
  · have h := o_f c11 h
    refine lv_aload_n hx hb dX6_frees_17 rfl (lv_at hl 0 rfl) ?_
    refine lv_aload_n hx hb dX6_frees_18 rfl (lv_at hl 0 rfl) ?_
    refine r_get F hK hP 0 1 rfl inW_X6 wm_584 rfl (by decide) rfl dX6_frees_19 ?_
    refine r_getN F hNw hK hP 1 0 rfl inW_X1 nf_X6_103 rfl (by decide) rfl dX6_frees_22 ?_
    obtain ⟨z25, hz25, h⟩ := o_b h
    refine k_v (wn := (ws_X6_frees cI cJ cB a0 a_reader a_scribe a_copy a_above a_below a_spans a_found a_freer a_freer_spans a_freer_bound a_freer_bench a_freer_bench_tree a_freer_bench_tree_cells a_freer_bench_starts a_freer_bench_looses a_freer_body a_freer_body_cells a_freer_sum a_freer_sum_numbers a_freer_rowsOfPoints a_formula a_formula_cells z25.1 freer_points freer_pointsPut freer_takenOut freer_bench_parts freer_bench_tree_rows freer_bench_tree_cells freer_bench_tree_cells_n freer_bench_starts freer_bench_looses freer_body_rows freer_body_cells freer_body_cells_n freer_sum_numbers freer_rowsOfPoints z25.2.1 z25.2.2 formula_cells_n)) (As := [.ref a_freer_bench]) (rest := []) F hNw hK hP hD hS hA (c_X6_become l D cI cJ cB a0 a_reader a_freer a_scribe a_copy a_above a_below a_spans a_found a_formula a_formula_cells a_freer_bench a_freer_bench_starts a_freer_bench_tree a_freer_bench_tree_cells a_freer_bench_looses _ loose formula_rows formula_cells formula_cells_n freer_bench_parts freer_bench_tree_rows freer_bench_tree_cells freer_bench_tree_cells_n freer_bench_looses N hz25) wm_803 cv_X6_become [0, 12, 13, 2, 3, 4, 6] [1, 5, 7, 8, 9, 10, 11] [7, 0, 10, 11, 12, 1, 13, 2, 3, 4, 5, 6, 8, 9] (⟨rfl, rfl, rfl, by decide, rfl⟩ : Ix [0, 12, 13, 2, 3, 4, 6] [1, 5, 7, 8, 9, 10, 11] [7, 0, 10, 11, 12, 1, 13, 2, 3, 4, 5, 6, 8, 9] 14) rfl (hN_of 7 14 (by decide +kernel) rfl (by decide +kernel) rfl) rfl rfl rfl rfl ⟨rfl, rfl, Nat.le_of_ble_eq_true rfl, Nat.le_of_ble_eq_true rfl⟩ hl.1 rfl (Nat.le_of_ble_eq_true rfl) ⟨hq1, hq2⟩ dX6_frees_25 (fun H locs hP hD hS => ?_)
    refine lv_aload_n hx hb dX6_frees_28 rfl (lv_at hl 0 rfl) ?_
    refine r_get F hK hP 0 3 rfl inW_X6 wm_586 rfl (by decide) rfl dX6_frees_29 ?_
    refine r_getN F hNw hK hP 12 1 rfl inW_X5 nf_X6_104 rfl (by decide) rfl dX6_frees_32 ?_
    obtain rfl := Option.some.inj h
    refine W.widen hq1 hq2 ?_
    exact z_ret (v := z25.2.1) F hr hlk rfl dX6_frees_35 a_freer_bench_tree_cells rfl hP hD hS
  · have h := o_t c11 h
    refine lv_bipush (v := (-2)) hx hb dX6_frees_14 (by decide) ?_
    obtain rfl := Option.some.inj h
    refine W.widen hq1 hq2 ?_
    exact z_ret (v := (-2)) F hr hlk rfl dX6_frees_16 a_freer_bench_tree_cells rfl hP hD hS
end G_X6_frees
set_option maxHeartbeats 4000000 in
set_option maxRecDepth 100000 in
theorem c_X6_frees (l : Launch) (D : va_G) (cI cJ cB : ClassId) (a0 a_reader a_scribe a_copy a_above a_below a_spans a_found a_freer a_freer_spans a_freer_bound a_freer_bench a_freer_bench_tree a_freer_bench_tree_cells a_freer_bench_starts a_freer_bench_looses a_freer_body a_freer_body_cells a_freer_sum a_freer_sum_numbers a_freer_rowsOfPoints a_formula a_formula_cells : Nat) (sz : Nat) (loose : Int32) (freer_points : Int32) (freer_pointsPut : Int32) (freer_takenOut : Int32) (freer_bench_parts : Int32) (freer_bench_tree_rows : Int32) (freer_bench_tree_cells : Nat → Int32) (freer_bench_tree_cells_n : Nat) (freer_bench_starts : Nat → Int32) (freer_bench_looses : Nat → Int32) (freer_body_rows : Int32) (freer_body_cells : Nat → Int32) (freer_body_cells_n : Nat) (freer_sum_numbers : Nat → Int64) (freer_rowsOfPoints : Nat → Int32) (formula_rows : Int32) (formula_cells : Nat → Int32) (formula_cells_n : Nat) (N : Nat) {z : Int32 × (Int32) × (Int32) × (Int32) × (Int32) × (Int32) × (Int32) × (Nat → Int32) × (Nat) × (Nat → Int32) × (Nat → Int32) × (Int32) × (Nat → Int32) × (Nat → Int64) × (Nat → Int32) × (Int32) × (Nat → Int32)} (h : f_X6_frees N loose freer_points freer_pointsPut freer_takenOut freer_bench_parts freer_bench_tree_rows freer_bench_tree_cells freer_bench_tree_cells_n freer_bench_starts freer_bench_looses freer_body_rows freer_body_cells freer_body_cells_n freer_sum_numbers freer_rowsOfPoints formula_rows formula_cells formula_cells_n = some z) : ph z.2.2.2.2.2.2.2.2.1 ≤ ph freer_bench_tree_cells_n ∧ Mz l yX6_frees cX6_frees 1 (some .int) (rm_X6_frees (ph freer_bench_tree_cells_n - ph z.2.2.2.2.2.2.2.2.1)) D (ty0 cI cJ cB) [.ref a0] sz (ws_X6_frees cI cJ cB a0 a_reader a_scribe a_copy a_above a_below a_spans a_found a_freer a_freer_spans a_freer_bound a_freer_bench a_freer_bench_tree a_freer_bench_tree_cells a_freer_bench_starts a_freer_bench_looses a_freer_body a_freer_body_cells a_freer_sum a_freer_sum_numbers a_freer_rowsOfPoints a_formula a_formula_cells loose freer_points freer_pointsPut freer_takenOut freer_bench_parts freer_bench_tree_rows freer_bench_tree_cells freer_bench_tree_cells_n freer_bench_starts freer_bench_looses freer_body_rows freer_body_cells freer_body_cells_n freer_sum_numbers freer_rowsOfPoints formula_rows formula_cells formula_cells_n) (fun _ => (some (.int z.1))) (fun q => (ws_X6_frees cI cJ cB a0 a_reader a_scribe a_copy a_above a_below a_spans a_found a_freer a_freer_spans a_freer_bound a_freer_bench a_freer_bench_tree q a_freer_bench_starts a_freer_bench_looses a_freer_body a_freer_body_cells a_freer_sum a_freer_sum_numbers a_freer_rowsOfPoints a_formula a_formula_cells z.2.1 z.2.2.1 z.2.2.2.1 z.2.2.2.2.1 z.2.2.2.2.2.1 z.2.2.2.2.2.2.1 z.2.2.2.2.2.2.2.1 z.2.2.2.2.2.2.2.2.1 z.2.2.2.2.2.2.2.2.2.1 z.2.2.2.2.2.2.2.2.2.2.1 z.2.2.2.2.2.2.2.2.2.2.2.1 z.2.2.2.2.2.2.2.2.2.2.2.2.1 freer_body_cells_n z.2.2.2.2.2.2.2.2.2.2.2.2.2.1 z.2.2.2.2.2.2.2.2.2.2.2.2.2.2.1 z.2.2.2.2.2.2.2.2.2.2.2.2.2.2.2.1 z.2.2.2.2.2.2.2.2.2.2.2.2.2.2.2.2 formula_cells_n)) (ph freer_bench_tree_cells_n - ph z.2.2.2.2.2.2.2.2.1) (100000 * (ph freer_bench_tree_cells_n - ph z.2.2.2.2.2.2.2.2.1)) := by
  have hm : ph z.2.2.2.2.2.2.2.2.1 ≤ ph freer_bench_tree_cells_n := mo_X6_frees h
  refine ⟨hm, ?_⟩
  refine Mz.of (by decide) (Nat.le_of_ble_eq_true rfl) ?_
  intro p e s m below meth c CX hK hsz hP hD ls hl
  have CX : Cx p m c cX6_frees 1 s ([.ref a0] : List Value).toArray (Cond.code yX6_frees cX6_frees 1 (some .int)) RX6 meth (some .int) := CX
  obtain ⟨F, hr, hlk, hNw⟩ := id CX
  have hx := F.1
  have hb := F.2.1
  have hown := F.2.2.2.1
  have hl : lv_has ls 1 [(0, .ref a0)] := hl
  have hS : va_S (va_A (ws_X6_frees cI cJ cB a0 a_reader a_scribe a_copy a_above a_below a_spans a_found a_freer a_freer_spans a_freer_bound a_freer_bench a_freer_bench_tree a_freer_bench_tree_cells a_freer_bench_starts a_freer_bench_looses a_freer_body a_freer_body_cells a_freer_sum a_freer_sum_numbers a_freer_rowsOfPoints a_formula a_formula_cells loose freer_points freer_pointsPut freer_takenOut freer_bench_parts freer_bench_tree_rows freer_bench_tree_cells freer_bench_tree_cells_n freer_bench_starts freer_bench_looses freer_body_rows freer_body_cells freer_body_cells_n freer_sum_numbers freer_rowsOfPoints formula_rows formula_cells formula_cells_n) sz) s.heap s.heap [] := va_S.rf
  have hA : ∀ q, s.heap.size ≤ q → va_A (ws_X6_frees cI cJ cB a0 a_reader a_scribe a_copy a_above a_below a_spans a_found a_freer a_freer_spans a_freer_bound a_freer_bench a_freer_bench_tree a_freer_bench_tree_cells a_freer_bench_starts a_freer_bench_looses a_freer_body a_freer_body_cells a_freer_sum a_freer_sum_numbers a_freer_rowsOfPoints a_formula a_formula_cells loose freer_points freer_pointsPut freer_takenOut freer_bench_parts freer_bench_tree_rows freer_bench_tree_cells freer_bench_tree_cells_n freer_bench_starts freer_bench_looses freer_body_rows freer_body_cells freer_body_cells_n freer_sum_numbers freer_rowsOfPoints formula_rows formula_cells formula_cells_n) sz q := fun q hq => Or.inr (hsz ▸ hq)
  have hph : ph freer_bench_tree_cells_n ≤ ph freer_bench_tree_cells_n := Nat.le_refl _
  have hq1 : ph freer_bench_tree_cells_n - ph freer_bench_tree_cells_n ≤ ph freer_bench_tree_cells_n - ph z.2.2.2.2.2.2.2.2.1 := by omega
  have hq2 : 100000 * (ph freer_bench_tree_cells_n - ph freer_bench_tree_cells_n) ≤ 100000 * (ph freer_bench_tree_cells_n - ph z.2.2.2.2.2.2.2.2.1) := by omega
  refine W.widen (k := ph freer_bench_tree_cells_n - ph freer_bench_tree_cells_n) (n := 100000 * (ph freer_bench_tree_cells_n - ph freer_bench_tree_cells_n)) (by omega) (by omega) ?_
  unfold f_X6_frees at h
  refine lv_aload_n hx hb dX6_frees_0 rfl (lv_at hl 0 rfl) ?_
  refine r_get F hK hP 0 1 rfl inW_X6 wm_584 rfl (by decide) rfl dX6_frees_1 ?_
  refine lv_aload_n hx hb dX6_frees_4 rfl (lv_at hl 0 rfl) ?_
  refine r_get F hK hP 0 3 rfl inW_X6 wm_586 rfl (by decide) rfl dX6_frees_5 ?_
  obtain ⟨z8, hz8, h⟩ := o_b h
  have hp8 : ph z8.2.2.2.2.2.2.2.1 ≤ ph freer_bench_tree_cells_n := mo_X1_run hz8
  have hm9 : ph z.2.2.2.2.2.2.2.2.1 ≤ ph z8.2.2.2.2.2.2.2.1 := by apply m_X6_frees_11; exact h
  refine kz_v (wn := fun q8 => (ws_X6_frees cI cJ cB a0 a_reader a_scribe a_copy a_above a_below a_spans a_found a_freer a_freer_spans a_freer_bound a_freer_bench a_freer_bench_tree q8 a_freer_bench_starts a_freer_bench_looses a_freer_body a_freer_body_cells a_freer_sum a_freer_sum_numbers a_freer_rowsOfPoints a_formula a_formula_cells loose z8.2.1 z8.2.2.1 z8.2.2.2.1 z8.2.2.2.2.1 z8.2.2.2.2.2.1 z8.2.2.2.2.2.2.1 z8.2.2.2.2.2.2.2.1 z8.2.2.2.2.2.2.2.2.1 z8.2.2.2.2.2.2.2.2.2.1 z8.2.2.2.2.2.2.2.2.2.2.1 z8.2.2.2.2.2.2.2.2.2.2.2.1 freer_body_cells_n z8.2.2.2.2.2.2.2.2.2.2.2.2.1 z8.2.2.2.2.2.2.2.2.2.2.2.2.2 formula_rows formula_cells formula_cells_n)) (As := [.ref a_formula]) (rest := []) F hNw hK hP hD hS hA (c_X1_run l D cI cJ cB a_freer a_freer_spans a_freer_bound a_freer_bench a_freer_bench_tree a_freer_bench_tree_cells a_freer_bench_starts a_freer_bench_looses a_freer_body a_freer_body_cells a_freer_sum a_freer_sum_numbers a_freer_rowsOfPoints a_formula a_formula_cells _ freer_points freer_pointsPut freer_takenOut freer_bench_parts freer_bench_tree_rows freer_bench_tree_cells freer_bench_tree_cells_n freer_bench_starts freer_bench_looses freer_body_rows freer_body_cells freer_body_cells_n freer_sum_numbers freer_rowsOfPoints formula_rows formula_cells formula_cells_n N hz8).2 wm_827 cv_X1_run [1, 2, 3, 4, 5, 6, 7, 8, 9, 10, 11, 12, 13] [0] [0, 1, 2, 3, 4, 5, 6, 7, 8, 9, 10, 11, 12, 13] (⟨rfl, rfl, rfl, by decide, rfl⟩ : Ix [1, 2, 3, 4, 5, 6, 7, 8, 9, 10, 11, 12, 13] [0] [0, 1, 2, 3, 4, 5, 6, 7, 8, 9, 10, 11, 12, 13] 14) rfl (fun q8 => rfl) rfl rfl rfl rfl ⟨rfl, rfl, Nat.le_of_ble_eq_true rfl, Nat.le_of_ble_eq_true rfl⟩ hl.1 rfl (Nat.le_of_ble_eq_true rfl) ⟨by show (ph freer_bench_tree_cells_n - ph freer_bench_tree_cells_n) + (ph freer_bench_tree_cells_n - ph z8.2.2.2.2.2.2.2.1) ≤ ph freer_bench_tree_cells_n - ph z.2.2.2.2.2.2.2.2.1; omega, by show 100000 * (ph freer_bench_tree_cells_n - ph freer_bench_tree_cells_n) + 100000 * (ph freer_bench_tree_cells_n - ph z8.2.2.2.2.2.2.2.1) ≤ 100000 * (ph freer_bench_tree_cells_n - ph z.2.2.2.2.2.2.2.2.1); omega⟩ dX6_frees_8 (fun q8 H locs hP hD hS => ?_)
  have hph9 : ph z8.2.2.2.2.2.2.2.1 ≤ ph freer_bench_tree_cells_n := Nat.le_trans hp8 hph
  refine W.widen (k := ph freer_bench_tree_cells_n - ph z8.2.2.2.2.2.2.2.1) (n := 100000 * (ph freer_bench_tree_cells_n - ph z8.2.2.2.2.2.2.2.1)) (by omega) (by omega) ?_
  have hph := hph9
  exact w_X6_frees_11 CX hK hsz q8 loose z8.2.1 z8.2.2.1 z8.2.2.2.1 z8.2.2.2.2.1 z8.2.2.2.2.2.1 z8.2.2.2.2.2.2.1 z8.2.2.2.2.2.2.2.1 z8.2.2.2.2.2.2.2.2.1 z8.2.2.2.2.2.2.2.2.2.1 z8.2.2.2.2.2.2.2.2.2.2.1 z8.2.2.2.2.2.2.2.2.2.2.2.1 z8.2.2.2.2.2.2.2.2.2.2.2.2.1 z8.2.2.2.2.2.2.2.2.2.2.2.2.2 formula_rows formula_cells z8.1 _ _ _ h hP hD hS (lv_sub hl [0] rfl) hph
section G_X6_told
abbrev ws_X6_told (cI cJ cB : ClassId) (a0 a_reader a_scribe a_copy a_above a_below a_freer a_freer_bench a_freer_body a_freer_sum a_freer_rowsOfPoints a_freer_spans a_freer_bound a_formula a_formula_cells a_spans a_found : Nat) (loose : Int32) (freer_points : Int32) (freer_pointsPut : Int32) (freer_takenOut : Int32) (formula_rows : Int32) (formula_cells : Nat → Int32) (formula_cells_n : Nat) (spans : Nat → Int32) (found : Nat → Int32) : va_W := [(a0, .inr (8, [.ref a_reader, .ref a_freer, .ref a_scribe, .ref a_formula, .ref a_copy, .ref a_above, .ref a_below, .ref a_spans, .ref a_found, .int loose])), (a_freer, .inr (3, [.ref a_freer_bench, .ref a_freer_body, .ref a_freer_sum, .ref a_freer_rowsOfPoints, .ref a_freer_spans, .ref a_freer_bound, .int freer_points, .int freer_pointsPut, .int freer_takenOut])), (a_formula, .inr (7, [.ref a_formula_cells, .int formula_rows])), (a_formula_cells, .inl (cI, formula_cells_n, .inl formula_cells)), (a_spans, .inl (cI, 400, .inl spans)), (a_found, .inl (cI, 400, .inl found))]
abbrev rm_X6_told : Room := { frames := 3, cells := 0, slots := 0, locals := 75 }
def f_X6_told (N : Nat) (freer_pointsPut : Int32) (freer_takenOut : Int32) (formula_rows : Int32) (formula_cells : Nat → Int32) (formula_cells_n : Nat) (spans : Nat → Int32) (found : Nat → Int32) (x1 : Int32) : Option (Int32 × (Nat → Int32) × (Nat → Int32)) := ifb (x1.toInt < 0 ∨ 5 < x1.toInt) (none) (ifb (x1 = 0) (some (formula_rows, spans, found)) (ifb (x1 = 1) ((f_X5_howMany N formula_rows formula_cells formula_cells_n 2 5).bind (fun z54 => some (z54, spans, found))) (ifb (x1 = 2) ((f_X5_howMany N formula_rows formula_cells formula_cells_n 8 9).bind (fun z66 => some (z66, spans, found))) (ifb (x1 = 3) ((f_X6_depth N formula_rows formula_cells formula_cells_n spans found).bind (fun z71 => some (z71.1, z71.2.1, z71.2.2))) (ifb (x1 = 4) (some (freer_pointsPut, spans, found)) (ifb (x1 = 5) (some (freer_takenOut, spans, found)) (none)))))))
variable {p : Program} {l : Launch} {e : Env} {s : State} {m : MethodId} {below : List Frame} {meth : Method} {c : Code} {args : Array Value} {x0 : Cond} {D : va_G} {cI cJ cB : ClassId} {sz N : Nat} {ws0 : va_W} {a0 a_reader a_scribe a_copy a_above a_below a_freer a_freer_bench a_freer_body a_freer_sum a_freer_rowsOfPoints a_freer_spans a_freer_bound a_formula a_formula_cells a_spans a_found : Nat} {loose : Int32} {freer_points : Int32} {freer_pointsPut : Int32} {freer_takenOut : Int32} {formula_rows : Int32} {formula_cells : Nat → Int32} {formula_cells_n : Nat} {z : Int32 × (Nat → Int32) × (Nat → Int32)}
end G_X6_told
set_option maxHeartbeats 4000000 in
set_option maxRecDepth 100000 in
theorem c_X6_told (l : Launch) (D : va_G) (cI cJ cB : ClassId) (a0 a_reader a_scribe a_copy a_above a_below a_freer a_freer_bench a_freer_body a_freer_sum a_freer_rowsOfPoints a_freer_spans a_freer_bound a_formula a_formula_cells a_spans a_found : Nat) (sz : Nat) (loose : Int32) (freer_points : Int32) (freer_pointsPut : Int32) (freer_takenOut : Int32) (formula_rows : Int32) (formula_cells : Nat → Int32) (formula_cells_n : Nat) (spans : Nat → Int32) (found : Nat → Int32) (x1 : Int32) (N : Nat) {z : Int32 × (Nat → Int32) × (Nat → Int32)} (h : f_X6_told N freer_pointsPut freer_takenOut formula_rows formula_cells formula_cells_n spans found x1 = some z) : Mg l yX6_told cX6_told 2 (some .int) rm_X6_told D (ty0 cI cJ cB) [.ref a0, .int x1] sz (ws_X6_told cI cJ cB a0 a_reader a_scribe a_copy a_above a_below a_freer a_freer_bench a_freer_body a_freer_sum a_freer_rowsOfPoints a_freer_spans a_freer_bound a_formula a_formula_cells a_spans a_found loose freer_points freer_pointsPut freer_takenOut formula_rows formula_cells formula_cells_n spans found) (some (.int z.1)) (ws_X6_told cI cJ cB a0 a_reader a_scribe a_copy a_above a_below a_freer a_freer_bench a_freer_body a_freer_sum a_freer_rowsOfPoints a_freer_spans a_freer_bound a_formula a_formula_cells a_spans a_found loose freer_points freer_pointsPut freer_takenOut formula_rows formula_cells formula_cells_n z.2.1 z.2.2) := by
  refine Mg.of (by decide) (Nat.le_of_ble_eq_true rfl) ?_
  intro p e s m below meth c CX hK hsz hP hD ls hl
  have CX : Cx p m c cX6_told 2 s ([.ref a0, .int x1] : List Value).toArray (Cond.code yX6_told cX6_told 2 (some .int)) RX6 meth (some .int) := CX
  obtain ⟨F, hr, hlk, hNw⟩ := id CX
  have hx := F.1
  have hb := F.2.1
  have hown := F.2.2.2.1
  have hl : lv_has ls 2 [(0, .ref a0), (1, .int x1)] := hl
  have hS : va_S (va_A (ws_X6_told cI cJ cB a0 a_reader a_scribe a_copy a_above a_below a_freer a_freer_bench a_freer_body a_freer_sum a_freer_rowsOfPoints a_freer_spans a_freer_bound a_formula a_formula_cells a_spans a_found loose freer_points freer_pointsPut freer_takenOut formula_rows formula_cells formula_cells_n spans found) sz) s.heap s.heap [] := va_S.rf
  have hA : ∀ q, s.heap.size ≤ q → va_A (ws_X6_told cI cJ cB a0 a_reader a_scribe a_copy a_above a_below a_freer a_freer_bench a_freer_body a_freer_sum a_freer_rowsOfPoints a_freer_spans a_freer_bound a_formula a_formula_cells a_spans a_found loose freer_points freer_pointsPut freer_takenOut formula_rows formula_cells formula_cells_n spans found) sz q := fun q hq => Or.inr (hsz ▸ hq)
  unfold f_X6_told at h
  refine lv_iload_n hx hb dX6_told_0 rfl (lv_at hl 1 rfl) ?_
  by_cases o1 : x1.toInt < 0 ∨ 5 < x1.toInt
  · have h := o_t o1 h
    refine lv_tableOut (tgt := 91) hx hb dX6_told_1 o1 (by decide) ?_
    cases h
  · have h := o_f o1 h
    by_cases e1_0 : x1 = 0
    · have h := o_t e1_0 h
      refine lv_tableIn (off := 39) (tgt := 40) hx hb dX6_told_1 (by rw [e1_0]; decide) (by rw [e1_0]; decide) (by rw [e1_0]; rfl) (by decide) ?_
      refine lv_aload_n hx hb dX6_told_40 rfl (lv_at hl 0 rfl) ?_
      refine r_get F hK hP 0 3 rfl inW_X6 wm_586 rfl (by decide) rfl dX6_told_41 ?_
      refine r_getN F hNw hK hP 2 1 rfl inW_X5 nf_X6_104 rfl (by decide) rfl dX6_told_44 ?_
      obtain rfl := Option.some.inj h
      exact r_ret (v := formula_rows) F hr hlk rfl dX6_told_47 hsz hP hD hS
    · have h := o_f e1_0 h
      by_cases e1_1 : x1 = 1
      · have h := o_t e1_1 h
        refine lv_tableIn (off := 47) (tgt := 48) hx hb dX6_told_1 (by rw [e1_1]; decide) (by rw [e1_1]; decide) (by rw [e1_1]; rfl) (by decide) ?_
        refine lv_aload_n hx hb dX6_told_48 rfl (lv_at hl 0 rfl) ?_
        refine r_get F hK hP 0 3 rfl inW_X6 wm_586 rfl (by decide) rfl dX6_told_49 ?_
        refine lv_iconst (v := 2) hx hb dX6_told_52 (by decide) ?_
        refine lv_iconst (v := 5) hx hb dX6_told_53 (by decide) ?_
        obtain ⟨z54, hz54, h⟩ := o_b h
        refine k_v (wn := (ws_X6_told cI cJ cB a0 a_reader a_scribe a_copy a_above a_below a_freer a_freer_bench a_freer_body a_freer_sum a_freer_rowsOfPoints a_freer_spans a_freer_bound a_formula a_formula_cells a_spans a_found loose freer_points freer_pointsPut freer_takenOut formula_rows formula_cells formula_cells_n spans found)) (As := [.int 2, .int 5]) (rest := []) F hNw hK hP hD hS hA (c_X5_howMany l D cI cJ cB a_formula a_formula_cells _ formula_rows formula_cells formula_cells_n 2 5 N hz54) wm_1028 cv_X5_howMany [2, 3] [0, 1, 4, 5] [0, 1, 4, 5, 2, 3] (⟨rfl, rfl, rfl, by decide, rfl⟩ : Ix [2, 3] [0, 1, 4, 5] [0, 1, 4, 5, 2, 3] 6) rfl (hN_of 4 6 (by decide +kernel) rfl (by decide +kernel) rfl) rfl rfl rfl rfl ⟨rfl, rfl, by decide, by decide⟩ hl.1 rfl (Nat.le_of_ble_eq_true rfl) ⟨Nat.zero_le _, Nat.zero_le _⟩ dX6_told_54 (fun H locs hP hD hS => ?_)
        obtain rfl := Option.some.inj h
        exact r_ret (v := z54) F hr hlk rfl dX6_told_57 hsz hP hD hS
      · have h := o_f e1_1 h
        by_cases e1_2 : x1 = 2
        · have h := o_t e1_2 h
          refine lv_tableIn (off := 57) (tgt := 58) hx hb dX6_told_1 (by rw [e1_2]; decide) (by rw [e1_2]; decide) (by rw [e1_2]; rfl) (by decide) ?_
          refine lv_aload_n hx hb dX6_told_58 rfl (lv_at hl 0 rfl) ?_
          refine r_get F hK hP 0 3 rfl inW_X6 wm_586 rfl (by decide) rfl dX6_told_59 ?_
          refine lv_bipush (v := 8) hx hb dX6_told_62 (by decide) ?_
          refine lv_bipush (v := 9) hx hb dX6_told_64 (by decide) ?_
          obtain ⟨z66, hz66, h⟩ := o_b h
          refine k_v (wn := (ws_X6_told cI cJ cB a0 a_reader a_scribe a_copy a_above a_below a_freer a_freer_bench a_freer_body a_freer_sum a_freer_rowsOfPoints a_freer_spans a_freer_bound a_formula a_formula_cells a_spans a_found loose freer_points freer_pointsPut freer_takenOut formula_rows formula_cells formula_cells_n spans found)) (As := [.int 8, .int 9]) (rest := []) F hNw hK hP hD hS hA (c_X5_howMany l D cI cJ cB a_formula a_formula_cells _ formula_rows formula_cells formula_cells_n 8 9 N hz66) wm_1028 cv_X5_howMany [2, 3] [0, 1, 4, 5] [0, 1, 4, 5, 2, 3] (⟨rfl, rfl, rfl, by decide, rfl⟩ : Ix [2, 3] [0, 1, 4, 5] [0, 1, 4, 5, 2, 3] 6) rfl (hN_of 4 6 (by decide +kernel) rfl (by decide +kernel) rfl) rfl rfl rfl rfl ⟨rfl, rfl, by decide, by decide⟩ hl.1 rfl (Nat.le_of_ble_eq_true rfl) ⟨Nat.zero_le _, Nat.zero_le _⟩ dX6_told_66 (fun H locs hP hD hS => ?_)
          obtain rfl := Option.some.inj h
          exact r_ret (v := z66) F hr hlk rfl dX6_told_69 hsz hP hD hS
        · have h := o_f e1_2 h
          by_cases e1_3 : x1 = 3
          · have h := o_t e1_3 h
            refine lv_tableIn (off := 69) (tgt := 70) hx hb dX6_told_1 (by rw [e1_3]; decide) (by rw [e1_3]; decide) (by rw [e1_3]; rfl) (by decide) ?_
            refine lv_aload_n hx hb dX6_told_70 rfl (lv_at hl 0 rfl) ?_
            obtain ⟨z71, hz71, h⟩ := o_b h
            refine k_v (wn := (ws_X6_told cI cJ cB a0 a_reader a_scribe a_copy a_above a_below a_freer a_freer_bench a_freer_body a_freer_sum a_freer_rowsOfPoints a_freer_spans a_freer_bound a_formula a_formula_cells a_spans a_found loose freer_points freer_pointsPut freer_takenOut formula_rows formula_cells formula_cells_n z71.2.1 z71.2.2)) (As := []) (rest := []) F hNw hK hP hD hS hA (c_X6_depth l D cI cJ cB a0 a_reader a_freer a_scribe a_copy a_above a_below a_formula a_formula_cells a_spans a_found _ loose formula_rows formula_cells formula_cells_n spans found N hz71) wm_1069 cv_X6_depth [0, 2, 3, 4, 5] [1] [1, 0, 2, 3, 4, 5] (⟨rfl, rfl, rfl, by decide, rfl⟩ : Ix [0, 2, 3, 4, 5] [1] [1, 0, 2, 3, 4, 5] 6) rfl (hN_of 1 6 (by decide +kernel) rfl (by decide +kernel) rfl) rfl rfl rfl rfl ⟨rfl, rfl, by decide, by decide⟩ hl.1 rfl (Nat.le_of_ble_eq_true rfl) ⟨Nat.zero_le _, Nat.zero_le _⟩ dX6_told_71 (fun H locs hP hD hS => ?_)
            obtain rfl := Option.some.inj h
            exact r_ret (v := z71.1) F hr hlk rfl dX6_told_74 hsz hP hD hS
          · have h := o_f e1_3 h
            by_cases e1_4 : x1 = 4
            · have h := o_t e1_4 h
              refine lv_tableIn (off := 74) (tgt := 75) hx hb dX6_told_1 (by rw [e1_4]; decide) (by rw [e1_4]; decide) (by rw [e1_4]; rfl) (by decide) ?_
              refine lv_aload_n hx hb dX6_told_75 rfl (lv_at hl 0 rfl) ?_
              refine r_get F hK hP 0 1 rfl inW_X6 wm_584 rfl (by decide) rfl dX6_told_76 ?_
              refine r_getN F hNw hK hP 1 7 rfl inW_X1 nf_X6_160 rfl (by decide) rfl dX6_told_79 ?_
              obtain rfl := Option.some.inj h
              exact r_ret (v := freer_pointsPut) F hr hlk rfl dX6_told_82 hsz hP hD hS
            · have h := o_f e1_4 h
              by_cases e1_5 : x1 = 5
              · have h := o_t e1_5 h
                refine lv_tableIn (off := 82) (tgt := 83) hx hb dX6_told_1 (by rw [e1_5]; decide) (by rw [e1_5]; decide) (by rw [e1_5]; rfl) (by decide) ?_
                refine lv_aload_n hx hb dX6_told_83 rfl (lv_at hl 0 rfl) ?_
                refine r_get F hK hP 0 1 rfl inW_X6 wm_584 rfl (by decide) rfl dX6_told_84 ?_
                refine r_getN F hNw hK hP 1 8 rfl inW_X1 nf_X6_163 rfl (by decide) rfl dX6_told_87 ?_
                obtain rfl := Option.some.inj h
                exact r_ret (v := freer_takenOut) F hr hlk rfl dX6_told_90 hsz hP hD hS
              · have h := o_f e1_5 h
                cases h
section G_X6_isTrue
abbrev ws_X6_isTrue (cI cJ cB : ClassId) (a0 a_reader a_freer a_scribe a_copy a_formula a_formula_cells a_above a_below a_spans a_found : Nat) (loose : Int32) (formula_rows : Int32) (formula_cells : Nat → Int32) (formula_cells_n : Nat) (above : Nat → Int32) (below_ : Nat → Int32) (spans : Nat → Int32) (found : Nat → Int32) : va_W := [(a0, .inr (8, [.ref a_reader, .ref a_freer, .ref a_scribe, .ref a_formula, .ref a_copy, .ref a_above, .ref a_below, .ref a_spans, .ref a_found, .int loose])), (a_formula, .inr (7, [.ref a_formula_cells, .int formula_rows])), (a_formula_cells, .inl (cI, formula_cells_n, .inl formula_cells)), (a_above, .inl (cI, 8, .inl above)), (a_below, .inl (cI, 8, .inl below_)), (a_spans, .inl (cI, 400, .inl spans)), (a_found, .inl (cI, 400, .inl found))]
abbrev rm_X6_isTrue : Room := { frames := 2, cells := 0, slots := 0, locals := 48 }
def f_X6_isTrue_27 (N : Nat) (formula_rows : Int32) (formula_cells : Nat → Int32) (formula_cells_n : Nat) (above : Nat → Int32) (below_ : Nat → Int32) (spans : Nat → Int32) (found : Nat → Int32) (s0 : Int32) : Option (Int32) := ckp (s0 = 0 ∨ s0 = 1) (some s0)
def f_X6_isTrue_18 (N : Nat) (formula_rows : Int32) (formula_cells : Nat → Int32) (formula_cells_n : Nat) (above : Nat → Int32) (below_ : Nat → Int32) (spans : Nat → Int32) (found : Nat → Int32) (y2 : Int32) : Option (Int32) := ifb (y2 = 0) (f_X6_isTrue_27 N formula_rows formula_cells formula_cells_n above below_ spans found 1) (f_X6_isTrue_27 N formula_rows formula_cells formula_cells_n above below_ spans found 0)
def f_X6_isTrue_133 (N : Nat) (formula_rows : Int32) (formula_cells : Nat → Int32) (formula_cells_n : Nat) (above : Nat → Int32) (below_ : Nat → Int32) (spans : Nat → Int32) (found : Nat → Int32) (s0 : Int32) : Option (Int32) := ckp (s0 = 0 ∨ s0 = 1) (some s0)
def f_X6_isTrue_103 (N : Nat) (formula_rows : Int32) (formula_cells : Nat → Int32) (formula_cells_n : Nat) (above : Nat → Int32) (below_ : Nat → Int32) (spans : Nat → Int32) (found : Nat → Int32) : Option (Int32) := f_X6_isTrue_133 N formula_rows formula_cells formula_cells_n above below_ spans found 0
def f_X6_isTrue_128 (N : Nat) (formula_rows : Int32) (formula_cells : Nat → Int32) (formula_cells_n : Nat) (above : Nat → Int32) (below_ : Nat → Int32) (spans : Nat → Int32) (found : Nat → Int32) : Option (Int32) := f_X6_isTrue_133 N formula_rows formula_cells formula_cells_n above below_ spans found 1
def f_X6_isTrue_63 (N : Nat) (formula_rows : Int32) (formula_cells : Nat → Int32) (formula_cells_n : Nat) (above : Nat → Int32) (below_ : Nat → Int32) (spans : Nat → Int32) (found : Nat → Int32) (y2 : Int32) (y3 : Int32) (s0 : Int32) : Option (Int32) := ifb (0 ≤ s0) (ifb (y2 = 6) (ix s0 400 (ifb ((found s0.toNatClampNeg) = 1) (ix y3 400 (ifb ((found y3.toNatClampNeg) = 1) (f_X6_isTrue_133 N formula_rows formula_cells formula_cells_n above below_ spans found 1) (f_X6_isTrue_103 N formula_rows formula_cells formula_cells_n above below_ spans found))) (f_X6_isTrue_103 N formula_rows formula_cells formula_cells_n above below_ spans found))) (ix s0 400 (ifb ((found s0.toNatClampNeg) = 1) (f_X6_isTrue_128 N formula_rows formula_cells formula_cells_n above below_ spans found) (ix y3 400 (ifb ((found y3.toNatClampNeg) = 1) (f_X6_isTrue_128 N formula_rows formula_cells formula_cells_n above below_ spans found) (f_X6_isTrue_133 N formula_rows formula_cells formula_cells_n above below_ spans found 0)))))) (some 0)
def f_X6_isTrue (N : Nat) (formula_rows : Int32) (formula_cells : Nat → Int32) (formula_cells_n : Nat) (above : Nat → Int32) (below_ : Nat → Int32) (spans : Nat → Int32) (found : Nat → Int32) (x1 : Int32) : Option (Int32) := (f_X5_kind N formula_rows formula_cells formula_cells_n x1).bind (fun z5 => ifb (z5 = 0) (f_X6_isTrue_18 N formula_rows formula_cells formula_cells_n above below_ spans found z5) (ifb (z5 = 1) (f_X6_isTrue_18 N formula_rows formula_cells formula_cells_n above below_ spans found z5) (ifb (5 < z5) (ifb ((x1 - 1) < 0) (f_X6_isTrue_63 N formula_rows formula_cells formula_cells_n above below_ spans found z5 (x1 - 1) (-1)) (ix (x1 - 1) 400 (f_X6_isTrue_63 N formula_rows formula_cells formula_cells_n above below_ spans found z5 (x1 - 1) ((spans (x1 - 1).toNatClampNeg) - 1)))) ((f_X6_sumWithValues N formula_rows formula_cells formula_cells_n above below_ x1).bind (fun z36 => (f_X4_isTrue N z5 z36).bind (fun z39 => ckp (z39 = 0 ∨ z39 = 1) (some z39)))))))
variable {p : Program} {l : Launch} {e : Env} {s : State} {m : MethodId} {below : List Frame} {meth : Method} {c : Code} {args : Array Value} {x0 : Cond} {D : va_G} {cI cJ cB : ClassId} {sz N : Nat} {ws0 : va_W} {a0 a_reader a_freer a_scribe a_copy a_formula a_formula_cells a_above a_below a_spans a_found : Nat} {loose : Int32} {formula_rows : Int32} {formula_cells : Nat → Int32} {formula_cells_n : Nat} {above : Nat → Int32} {below_ : Nat → Int32} {spans : Nat → Int32} {found : Nat → Int32} {z : Int32}
set_option maxHeartbeats 4000000 in
set_option maxRecDepth 100000 in
theorem w_X6_isTrue_27 (CX : Cx p m c cX6_isTrue 5 s args x0 RX6 meth (some .boolean)) (hK : va_K D vwCl (ty0 cI cJ cB) s) (hsz : s.heap.size = sz) : ∀ (s0 : Int32) (H : Heap) (locs : List Loc) (ls : Array Slot), f_X6_isTrue_27 N formula_rows formula_cells formula_cells_n above below_ spans found s0 = some z → va_P D vwCl (ws_X6_isTrue cI cJ cB a0 a_reader a_freer a_scribe a_copy a_formula a_formula_cells a_above a_below a_spans a_found loose formula_rows formula_cells formula_cells_n above below_ spans found) H → va_D (va_A ws0 sz) (ws_X6_isTrue cI cJ cB a0 a_reader a_freer a_scribe a_copy a_formula a_formula_cells a_above a_below a_spans a_found loose formula_rows formula_cells formula_cells_n above below_ spans found) → va_S (va_A ws0 sz) s.heap H locs → lv_has ls 5 [] → W p l e rm_X6_isTrue s m args below meth c H locs 0 0 (MQ below (gQ D sz ws0 (ws_X6_isTrue cI cJ cB a0 a_reader a_freer a_scribe a_copy a_formula a_formula_cells a_above a_below a_spans a_found loose formula_rows formula_cells formula_cells_n above below_ spans found) (some (.int z))) args s 0 0 (va_A ws0 sz)) (F0 m 27 ls [.int s0]) := by
  obtain ⟨F, hr, hlk, hNw⟩ := id CX
  have hx := F.1
  have hb := F.2.1
  have hown := F.2.2.2.1
  have hA : ∀ q, s.heap.size ≤ q → va_A ws0 sz q := fun q hq => Or.inr (hsz ▸ hq)
  intro s0 H locs ls h hP hD hS hl
  unfold f_X6_isTrue_27 at h
  obtain ⟨hc27, h⟩ := o_c h
  obtain rfl := Option.some.inj h
  exact r_ret (v := s0) F hr hlk (nb01 hc27) dX6_isTrue_27 hsz hP hD hS
set_option maxHeartbeats 4000000 in
set_option maxRecDepth 100000 in
theorem w_X6_isTrue_18 (CX : Cx p m c cX6_isTrue 5 s args x0 RX6 meth (some .boolean)) (hK : va_K D vwCl (ty0 cI cJ cB) s) (hsz : s.heap.size = sz) : ∀ (y2 : Int32) (H : Heap) (locs : List Loc) (ls : Array Slot), f_X6_isTrue_18 N formula_rows formula_cells formula_cells_n above below_ spans found y2 = some z → va_P D vwCl (ws_X6_isTrue cI cJ cB a0 a_reader a_freer a_scribe a_copy a_formula a_formula_cells a_above a_below a_spans a_found loose formula_rows formula_cells formula_cells_n above below_ spans found) H → va_D (va_A ws0 sz) (ws_X6_isTrue cI cJ cB a0 a_reader a_freer a_scribe a_copy a_formula a_formula_cells a_above a_below a_spans a_found loose formula_rows formula_cells formula_cells_n above below_ spans found) → va_S (va_A ws0 sz) s.heap H locs → lv_has ls 5 [(2, .int y2)] → W p l e rm_X6_isTrue s m args below meth c H locs 0 0 (MQ below (gQ D sz ws0 (ws_X6_isTrue cI cJ cB a0 a_reader a_freer a_scribe a_copy a_formula a_formula_cells a_above a_below a_spans a_found loose formula_rows formula_cells formula_cells_n above below_ spans found) (some (.int z))) args s 0 0 (va_A ws0 sz)) (F0 m 18 ls []) := by
  obtain ⟨F, hr, hlk, hNw⟩ := id CX
  have hx := F.1
  have hb := F.2.1
  have hown := F.2.2.2.1
  have hA : ∀ q, s.heap.size ≤ q → va_A ws0 sz q := fun q hq => Or.inr (hsz ▸ hq)
  intro y2 H locs ls h hP hD hS hl
  unfold f_X6_isTrue_18 at h
  refine lv_iload_n hx hb dX6_isTrue_18 rfl (lv_at hl 0 rfl) ?_
  refine lv_if_ne (tgt := 26) hx hb dX6_isTrue_19 (by decide) (fun c19 => ?_) (fun c19 => ?_)
  · have h := o_f c19 h
    refine lv_iconst (v := 0) hx hb dX6_isTrue_26 (by decide) ?_
    exact w_X6_isTrue_27 CX hK hsz 0 _ _ _ h hP hD hS (lv_sub hl [] rfl)
  · have h := o_t c19 h
    refine lv_iconst (v := 1) hx hb dX6_isTrue_22 (by decide) ?_
    refine lv_goto (tgt := 27) hx hb dX6_isTrue_23 (by decide) ?_
    exact w_X6_isTrue_27 CX hK hsz 1 _ _ _ h hP hD hS (lv_sub hl [] rfl)
set_option maxHeartbeats 4000000 in
set_option maxRecDepth 100000 in
theorem w_X6_isTrue_133 (CX : Cx p m c cX6_isTrue 5 s args x0 RX6 meth (some .boolean)) (hK : va_K D vwCl (ty0 cI cJ cB) s) (hsz : s.heap.size = sz) : ∀ (s0 : Int32) (H : Heap) (locs : List Loc) (ls : Array Slot), f_X6_isTrue_133 N formula_rows formula_cells formula_cells_n above below_ spans found s0 = some z → va_P D vwCl (ws_X6_isTrue cI cJ cB a0 a_reader a_freer a_scribe a_copy a_formula a_formula_cells a_above a_below a_spans a_found loose formula_rows formula_cells formula_cells_n above below_ spans found) H → va_D (va_A ws0 sz) (ws_X6_isTrue cI cJ cB a0 a_reader a_freer a_scribe a_copy a_formula a_formula_cells a_above a_below a_spans a_found loose formula_rows formula_cells formula_cells_n above below_ spans found) → va_S (va_A ws0 sz) s.heap H locs → lv_has ls 5 [] → W p l e rm_X6_isTrue s m args below meth c H locs 0 0 (MQ below (gQ D sz ws0 (ws_X6_isTrue cI cJ cB a0 a_reader a_freer a_scribe a_copy a_formula a_formula_cells a_above a_below a_spans a_found loose formula_rows formula_cells formula_cells_n above below_ spans found) (some (.int z))) args s 0 0 (va_A ws0 sz)) (F0 m 133 ls [.int s0]) := by
  obtain ⟨F, hr, hlk, hNw⟩ := id CX
  have hx := F.1
  have hb := F.2.1
  have hown := F.2.2.2.1
  have hA : ∀ q, s.heap.size ≤ q → va_A ws0 sz q := fun q hq => Or.inr (hsz ▸ hq)
  intro s0 H locs ls h hP hD hS hl
  unfold f_X6_isTrue_133 at h
  obtain ⟨hc133, h⟩ := o_c h
  obtain rfl := Option.some.inj h
  exact r_ret (v := s0) F hr hlk (nb01 hc133) dX6_isTrue_133 hsz hP hD hS
set_option maxHeartbeats 4000000 in
set_option maxRecDepth 100000 in
theorem w_X6_isTrue_103 (CX : Cx p m c cX6_isTrue 5 s args x0 RX6 meth (some .boolean)) (hK : va_K D vwCl (ty0 cI cJ cB) s) (hsz : s.heap.size = sz) : ∀ (H : Heap) (locs : List Loc) (ls : Array Slot), f_X6_isTrue_103 N formula_rows formula_cells formula_cells_n above below_ spans found = some z → va_P D vwCl (ws_X6_isTrue cI cJ cB a0 a_reader a_freer a_scribe a_copy a_formula a_formula_cells a_above a_below a_spans a_found loose formula_rows formula_cells formula_cells_n above below_ spans found) H → va_D (va_A ws0 sz) (ws_X6_isTrue cI cJ cB a0 a_reader a_freer a_scribe a_copy a_formula a_formula_cells a_above a_below a_spans a_found loose formula_rows formula_cells formula_cells_n above below_ spans found) → va_S (va_A ws0 sz) s.heap H locs → lv_has ls 5 [] → W p l e rm_X6_isTrue s m args below meth c H locs 0 0 (MQ below (gQ D sz ws0 (ws_X6_isTrue cI cJ cB a0 a_reader a_freer a_scribe a_copy a_formula a_formula_cells a_above a_below a_spans a_found loose formula_rows formula_cells formula_cells_n above below_ spans found) (some (.int z))) args s 0 0 (va_A ws0 sz)) (F0 m 103 ls []) := by
  obtain ⟨F, hr, hlk, hNw⟩ := id CX
  have hx := F.1
  have hb := F.2.1
  have hown := F.2.2.2.1
  have hA : ∀ q, s.heap.size ≤ q → va_A ws0 sz q := fun q hq => Or.inr (hsz ▸ hq)
  intro  H locs ls h hP hD hS hl
  unfold f_X6_isTrue_103 at h
  refine lv_iconst (v := 0) hx hb dX6_isTrue_103 (by decide) ?_
  refine lv_goto (tgt := 133) hx hb dX6_isTrue_104 (by decide) ?_
  exact w_X6_isTrue_133 CX hK hsz 0 _ _ _ h hP hD hS (lv_sub hl [] rfl)
set_option maxHeartbeats 4000000 in
set_option maxRecDepth 100000 in
theorem w_X6_isTrue_128 (CX : Cx p m c cX6_isTrue 5 s args x0 RX6 meth (some .boolean)) (hK : va_K D vwCl (ty0 cI cJ cB) s) (hsz : s.heap.size = sz) : ∀ (H : Heap) (locs : List Loc) (ls : Array Slot), f_X6_isTrue_128 N formula_rows formula_cells formula_cells_n above below_ spans found = some z → va_P D vwCl (ws_X6_isTrue cI cJ cB a0 a_reader a_freer a_scribe a_copy a_formula a_formula_cells a_above a_below a_spans a_found loose formula_rows formula_cells formula_cells_n above below_ spans found) H → va_D (va_A ws0 sz) (ws_X6_isTrue cI cJ cB a0 a_reader a_freer a_scribe a_copy a_formula a_formula_cells a_above a_below a_spans a_found loose formula_rows formula_cells formula_cells_n above below_ spans found) → va_S (va_A ws0 sz) s.heap H locs → lv_has ls 5 [] → W p l e rm_X6_isTrue s m args below meth c H locs 0 0 (MQ below (gQ D sz ws0 (ws_X6_isTrue cI cJ cB a0 a_reader a_freer a_scribe a_copy a_formula a_formula_cells a_above a_below a_spans a_found loose formula_rows formula_cells formula_cells_n above below_ spans found) (some (.int z))) args s 0 0 (va_A ws0 sz)) (F0 m 128 ls []) := by
  obtain ⟨F, hr, hlk, hNw⟩ := id CX
  have hx := F.1
  have hb := F.2.1
  have hown := F.2.2.2.1
  have hA : ∀ q, s.heap.size ≤ q → va_A ws0 sz q := fun q hq => Or.inr (hsz ▸ hq)
  intro  H locs ls h hP hD hS hl
  unfold f_X6_isTrue_128 at h
  refine lv_iconst (v := 1) hx hb dX6_isTrue_128 (by decide) ?_
  refine lv_goto (tgt := 133) hx hb dX6_isTrue_129 (by decide) ?_
  exact w_X6_isTrue_133 CX hK hsz 1 _ _ _ h hP hD hS (lv_sub hl [] rfl)
set_option maxHeartbeats 4000000 in
set_option maxRecDepth 100000 in
theorem w_X6_isTrue_63 (CX : Cx p m c cX6_isTrue 5 s args x0 RX6 meth (some .boolean)) (hK : va_K D vwCl (ty0 cI cJ cB) s) (hsz : s.heap.size = sz) : ∀ (y2 : Int32) (y3 : Int32) (s0 : Int32) (H : Heap) (locs : List Loc) (ls : Array Slot), f_X6_isTrue_63 N formula_rows formula_cells formula_cells_n above below_ spans found y2 y3 s0 = some z → va_P D vwCl (ws_X6_isTrue cI cJ cB a0 a_reader a_freer a_scribe a_copy a_formula a_formula_cells a_above a_below a_spans a_found loose formula_rows formula_cells formula_cells_n above below_ spans found) H → va_D (va_A ws0 sz) (ws_X6_isTrue cI cJ cB a0 a_reader a_freer a_scribe a_copy a_formula a_formula_cells a_above a_below a_spans a_found loose formula_rows formula_cells formula_cells_n above below_ spans found) → va_S (va_A ws0 sz) s.heap H locs → lv_has ls 5 [(0, .ref a0), (2, .int y2), (3, .int y3)] → W p l e rm_X6_isTrue s m args below meth c H locs 0 0 (MQ below (gQ D sz ws0 (ws_X6_isTrue cI cJ cB a0 a_reader a_freer a_scribe a_copy a_formula a_formula_cells a_above a_below a_spans a_found loose formula_rows formula_cells formula_cells_n above below_ spans found) (some (.int z))) args s 0 0 (va_A ws0 sz)) (F0 m 63 ls [.int s0]) := by
  obtain ⟨F, hr, hlk, hNw⟩ := id CX
  have hx := F.1
  have hb := F.2.1
  have hown := F.2.2.2.1
  have hA : ∀ q, s.heap.size ≤ q → va_A ws0 sz q := fun q hq => Or.inr (hsz ▸ hq)
  intro y2 y3 s0 H locs ls h hP hD hS hl
  unfold f_X6_isTrue_63 at h
  refine lv_istore (lv' := [(4, .int s0), (0, .ref a0), (2, .int y2), (3, .int y3)]) hx hb dX6_isTrue_63 hl (by decide) rfl (fun ls hl => ?_)
  refine lv_iload hx hb dX6_isTrue_65 (lv_at hl 0 rfl) ?_
  refine lv_if_ge (tgt := 72) hx hb dX6_isTrue_67 (by decide) (fun c67 => ?_) (fun c67 => ?_)
  · have h := o_t c67 h
    refine lv_iload_n hx hb dX6_isTrue_72 rfl (lv_at hl 2 rfl) ?_
    refine lv_bipush (v := 6) hx hb dX6_isTrue_73 (by decide) ?_
    refine lv_icmp_ne (tgt := 107) hx hb dX6_isTrue_75 (by decide) (fun c75 => ?_) (fun c75 => ?_)
    · have h := o_f c75 h
      refine lv_aload_n hx hb dX6_isTrue_107 rfl (lv_at hl 1 rfl) ?_
      refine r_get F hK hP 0 8 rfl inW_X6 wm_591 rfl (by decide) rfl dX6_isTrue_108 ?_
      refine lv_iload hx hb dX6_isTrue_111 (lv_at hl 0 rfl) ?_
      obtain ⟨hi113, h⟩ := o_ix h
      refine va_iald hx hb hK hP 6 0 rfl rfl hi113 dX6_isTrue_113 ?_
      refine lv_iconst (v := 1) hx hb dX6_isTrue_114 (by decide) ?_
      refine lv_icmp_eq (tgt := 128) hx hb dX6_isTrue_115 (by decide) (fun c115 => ?_) (fun c115 => ?_)
      · have h := o_t c115 h
        exact w_X6_isTrue_128 CX hK hsz  _ _ _ h hP hD hS (lv_sub hl [] rfl)
      · have h := o_f c115 h
        refine lv_aload_n hx hb dX6_isTrue_118 rfl (lv_at hl 1 rfl) ?_
        refine r_get F hK hP 0 8 rfl inW_X6 wm_591 rfl (by decide) rfl dX6_isTrue_119 ?_
        refine lv_iload_n hx hb dX6_isTrue_122 rfl (lv_at hl 3 rfl) ?_
        obtain ⟨hi123, h⟩ := o_ix h
        refine va_iald hx hb hK hP 6 0 rfl rfl hi123 dX6_isTrue_123 ?_
        refine lv_iconst (v := 1) hx hb dX6_isTrue_124 (by decide) ?_
        refine lv_icmp_ne (tgt := 132) hx hb dX6_isTrue_125 (by decide) (fun c125 => ?_) (fun c125 => ?_)
        · have h := o_f c125 h
          refine lv_iconst (v := 0) hx hb dX6_isTrue_132 (by decide) ?_
          exact w_X6_isTrue_133 CX hK hsz 0 _ _ _ h hP hD hS (lv_sub hl [] rfl)
        · have h := o_t c125 h
          exact w_X6_isTrue_128 CX hK hsz  _ _ _ h hP hD hS (lv_sub hl [] rfl)
    · have h := o_t c75 h
      refine lv_aload_n hx hb dX6_isTrue_78 rfl (lv_at hl 1 rfl) ?_
      refine r_get F hK hP 0 8 rfl inW_X6 wm_591 rfl (by decide) rfl dX6_isTrue_79 ?_
      refine lv_iload hx hb dX6_isTrue_82 (lv_at hl 0 rfl) ?_
      obtain ⟨hi84, h⟩ := o_ix h
      refine va_iald hx hb hK hP 6 0 rfl rfl hi84 dX6_isTrue_84 ?_
      refine lv_iconst (v := 1) hx hb dX6_isTrue_85 (by decide) ?_
      refine lv_icmp_ne (tgt := 103) hx hb dX6_isTrue_86 (by decide) (fun c86 => ?_) (fun c86 => ?_)
      · have h := o_f c86 h
        exact w_X6_isTrue_103 CX hK hsz  _ _ _ h hP hD hS (lv_sub hl [] rfl)
      · have h := o_t c86 h
        refine lv_aload_n hx hb dX6_isTrue_89 rfl (lv_at hl 1 rfl) ?_
        refine r_get F hK hP 0 8 rfl inW_X6 wm_591 rfl (by decide) rfl dX6_isTrue_90 ?_
        refine lv_iload_n hx hb dX6_isTrue_93 rfl (lv_at hl 3 rfl) ?_
        obtain ⟨hi94, h⟩ := o_ix h
        refine va_iald hx hb hK hP 6 0 rfl rfl hi94 dX6_isTrue_94 ?_
        refine lv_iconst (v := 1) hx hb dX6_isTrue_95 (by decide) ?_
        refine lv_icmp_ne (tgt := 103) hx hb dX6_isTrue_96 (by decide) (fun c96 => ?_) (fun c96 => ?_)
        · have h := o_f c96 h
          exact w_X6_isTrue_103 CX hK hsz  _ _ _ h hP hD hS (lv_sub hl [] rfl)
        · have h := o_t c96 h
          refine lv_iconst (v := 1) hx hb dX6_isTrue_99 (by decide) ?_
          refine lv_goto (tgt := 133) hx hb dX6_isTrue_100 (by decide) ?_
          exact w_X6_isTrue_133 CX hK hsz 1 _ _ _ h hP hD hS (lv_sub hl [] rfl)
  · have h := o_f c67 h
    refine lv_iconst (v := 0) hx hb dX6_isTrue_70 (by decide) ?_
    obtain rfl := Option.some.inj h
    exact r_ret (v := 0) F hr hlk rfl dX6_isTrue_71 hsz hP hD hS
end G_X6_isTrue
set_option maxHeartbeats 4000000 in
set_option maxRecDepth 100000 in
theorem c_X6_isTrue (l : Launch) (D : va_G) (cI cJ cB : ClassId) (a0 a_reader a_freer a_scribe a_copy a_formula a_formula_cells a_above a_below a_spans a_found : Nat) (sz : Nat) (loose : Int32) (formula_rows : Int32) (formula_cells : Nat → Int32) (formula_cells_n : Nat) (above : Nat → Int32) (below_ : Nat → Int32) (spans : Nat → Int32) (found : Nat → Int32) (x1 : Int32) (N : Nat) {z : Int32} (h : f_X6_isTrue N formula_rows formula_cells formula_cells_n above below_ spans found x1 = some z) : Mg l yX6_isTrue cX6_isTrue 5 (some .boolean) rm_X6_isTrue D (ty0 cI cJ cB) [.ref a0, .int x1] sz (ws_X6_isTrue cI cJ cB a0 a_reader a_freer a_scribe a_copy a_formula a_formula_cells a_above a_below a_spans a_found loose formula_rows formula_cells formula_cells_n above below_ spans found) (some (.int z)) (ws_X6_isTrue cI cJ cB a0 a_reader a_freer a_scribe a_copy a_formula a_formula_cells a_above a_below a_spans a_found loose formula_rows formula_cells formula_cells_n above below_ spans found) := by
  refine Mg.of (by decide) (Nat.le_of_ble_eq_true rfl) ?_
  intro p e s m below meth c CX hK hsz hP hD ls hl
  have CX : Cx p m c cX6_isTrue 5 s ([.ref a0, .int x1] : List Value).toArray (Cond.code yX6_isTrue cX6_isTrue 5 (some .boolean)) RX6 meth (some .boolean) := CX
  obtain ⟨F, hr, hlk, hNw⟩ := id CX
  have hx := F.1
  have hb := F.2.1
  have hown := F.2.2.2.1
  have hl : lv_has ls 5 [(0, .ref a0), (1, .int x1)] := hl
  have hS : va_S (va_A (ws_X6_isTrue cI cJ cB a0 a_reader a_freer a_scribe a_copy a_formula a_formula_cells a_above a_below a_spans a_found loose formula_rows formula_cells formula_cells_n above below_ spans found) sz) s.heap s.heap [] := va_S.rf
  have hA : ∀ q, s.heap.size ≤ q → va_A (ws_X6_isTrue cI cJ cB a0 a_reader a_freer a_scribe a_copy a_formula a_formula_cells a_above a_below a_spans a_found loose formula_rows formula_cells formula_cells_n above below_ spans found) sz q := fun q hq => Or.inr (hsz ▸ hq)
  unfold f_X6_isTrue at h
  refine lv_aload_n hx hb dX6_isTrue_0 rfl (lv_at hl 0 rfl) ?_
  refine r_get F hK hP 0 3 rfl inW_X6 wm_586 rfl (by decide) rfl dX6_isTrue_1 ?_
  refine lv_iload_n hx hb dX6_isTrue_4 rfl (lv_at hl 1 rfl) ?_
  obtain ⟨z5, hz5, h⟩ := o_b h
  refine k_v (wn := (ws_X6_isTrue cI cJ cB a0 a_reader a_freer a_scribe a_copy a_formula a_formula_cells a_above a_below a_spans a_found loose formula_rows formula_cells formula_cells_n above below_ spans found)) (As := [.int x1]) (rest := []) F hNw hK hP hD hS hA (c_X5_kind l D cI cJ cB a_formula a_formula_cells _ formula_rows formula_cells formula_cells_n x1 N hz5) wm_1053 cv_X5_kind [1, 2] [0, 3, 4, 5, 6] [0, 5, 6, 1, 2, 3, 4] (⟨rfl, rfl, rfl, by decide, rfl⟩ : Ix [1, 2] [0, 3, 4, 5, 6] [0, 5, 6, 1, 2, 3, 4] 7) rfl (hN_of 5 7 (by decide +kernel) rfl (by decide +kernel) rfl) rfl rfl rfl rfl ⟨rfl, rfl, by decide, by decide⟩ hl.1 rfl (Nat.le_of_ble_eq_true rfl) ⟨Nat.zero_le _, Nat.zero_le _⟩ dX6_isTrue_5 (fun H locs hP hD hS => ?_)
  refine lv_istore_n (lv' := [(2, .int z5), (0, .ref a0), (1, .int x1)]) hx hb dX6_isTrue_8 rfl hl (by decide) rfl (fun ls hl => ?_)
  refine lv_iload_n hx hb dX6_isTrue_9 rfl (lv_at hl 0 rfl) ?_
  refine lv_if_eq (tgt := 18) hx hb dX6_isTrue_10 (by decide) (fun c10 => ?_) (fun c10 => ?_)
  · have h := o_t c10 h
    exact w_X6_isTrue_18 CX hK hsz z5 _ _ _ h hP hD hS (lv_sub hl [0] rfl)
  · have h := o_f c10 h
    refine lv_iload_n hx hb dX6_isTrue_13 rfl (lv_at hl 0 rfl) ?_
    refine lv_iconst (v := 1) hx hb dX6_isTrue_14 (by decide) ?_
    refine lv_icmp_ne (tgt := 28) hx hb dX6_isTrue_15 (by decide) (fun c15 => ?_) (fun c15 => ?_)
    · have h := o_f c15 h
      refine lv_iload_n hx hb dX6_isTrue_28 rfl (lv_at hl 0 rfl) ?_
      refine lv_iconst (v := 5) hx hb dX6_isTrue_29 (by decide) ?_
      refine lv_icmp_gt (tgt := 43) hx hb dX6_isTrue_30 (by decide) (fun c30 => ?_) (fun c30 => ?_)
      · have h := o_t c30 h
        refine lv_iload_n hx hb dX6_isTrue_43 rfl (lv_at hl 2 rfl) ?_
        refine lv_iconst (v := 1) hx hb dX6_isTrue_44 (by decide) ?_
        refine lv_isub hx hb dX6_isTrue_45 ?_
        refine lv_istore_n (lv' := [(3, .int (x1 - 1)), (2, .int z5), (0, .ref a0), (1, .int x1)]) hx hb dX6_isTrue_46 rfl hl (by decide) rfl (fun ls hl => ?_)
        refine lv_iload_n hx hb dX6_isTrue_47 rfl (lv_at hl 0 rfl) ?_
        refine lv_if_lt (tgt := 62) hx hb dX6_isTrue_48 (by decide) (fun c48 => ?_) (fun c48 => ?_)
        · have h := o_t c48 h
          refine lv_iconst (v := (-1)) hx hb dX6_isTrue_62 (by decide) ?_
          exact w_X6_isTrue_63 CX hK hsz z5 (x1 - 1) (-1) _ _ _ h hP hD hS (lv_sub hl [2, 1, 0] rfl)
        · have h := o_f c48 h
          refine lv_aload_n hx hb dX6_isTrue_51 rfl (lv_at hl 2 rfl) ?_
          refine r_get F hK hP 0 7 rfl inW_X6 wm_590 rfl (by decide) rfl dX6_isTrue_52 ?_
          refine lv_iload_n hx hb dX6_isTrue_55 rfl (lv_at hl 0 rfl) ?_
          obtain ⟨hi56, h⟩ := o_ix h
          refine va_iald hx hb hK hP 5 0 rfl rfl hi56 dX6_isTrue_56 ?_
          refine lv_iconst (v := 1) hx hb dX6_isTrue_57 (by decide) ?_
          refine lv_isub hx hb dX6_isTrue_58 ?_
          refine lv_goto (tgt := 63) hx hb dX6_isTrue_59 (by decide) ?_
          exact w_X6_isTrue_63 CX hK hsz z5 (x1 - 1) ((spans (x1 - 1).toNatClampNeg) - 1) _ _ _ h hP hD hS (lv_sub hl [2, 1, 0] rfl)
      · have h := o_f c30 h
        refine lv_iload_n hx hb dX6_isTrue_33 rfl (lv_at hl 0 rfl) ?_
        refine lv_aload_n hx hb dX6_isTrue_34 rfl (lv_at hl 1 rfl) ?_
        refine lv_iload_n hx hb dX6_isTrue_35 rfl (lv_at hl 2 rfl) ?_
        obtain ⟨z36, hz36, h⟩ := o_b h
        refine k_v (wn := (ws_X6_isTrue cI cJ cB a0 a_reader a_freer a_scribe a_copy a_formula a_formula_cells a_above a_below a_spans a_found loose formula_rows formula_cells formula_cells_n above below_ spans found)) (As := [.int x1]) (rest := [.int z5]) F hNw hK hP hD hS hA (c_X6_sumWithValues l D cI cJ cB a0 a_reader a_freer a_scribe a_copy a_spans a_found a_formula a_formula_cells a_above a_below _ loose formula_rows formula_cells formula_cells_n above below_ x1 N hz36) wm_1054 cv_X6_sumWithValues [0, 1, 2, 3, 4] [5, 6] [2, 3, 4, 5, 6, 0, 1] (⟨rfl, rfl, rfl, by decide, rfl⟩ : Ix [0, 1, 2, 3, 4] [5, 6] [2, 3, 4, 5, 6, 0, 1] 7) rfl (hN_of 2 7 (by decide +kernel) rfl (by decide +kernel) rfl) rfl rfl rfl rfl ⟨rfl, rfl, by decide, by decide⟩ hl.1 rfl (Nat.le_of_ble_eq_true rfl) ⟨Nat.zero_le _, Nat.zero_le _⟩ dX6_isTrue_36 (fun H locs hP hD hS => ?_)
        obtain ⟨z39, hz39, h⟩ := o_b h
        refine k_s (wn := (ws_X6_isTrue cI cJ cB a0 a_reader a_freer a_scribe a_copy a_formula a_formula_cells a_above a_below a_spans a_found loose formula_rows formula_cells formula_cells_n above below_ spans found)) (As := [.int z5, .long z36]) (rest := []) F hNw hK hP hD hS hA (c_X4_isTrue l D cI cJ cB _ z5 z36 N hz39) wm_1061 cs_X4_isTrue [] [0, 1, 2, 3, 4, 5, 6] [0, 1, 2, 3, 4, 5, 6] (⟨rfl, rfl, rfl, by decide, rfl⟩ : Ix [] [0, 1, 2, 3, 4, 5, 6] [0, 1, 2, 3, 4, 5, 6] 7) rfl (hN_of 7 7 (by decide +kernel) rfl (by decide +kernel) rfl) rfl ⟨rfl, rfl, by decide, by decide⟩ hl.1 rfl (Nat.le_of_ble_eq_true rfl) ⟨Nat.zero_le _, Nat.zero_le _⟩ dX6_isTrue_39 (fun H locs hP hD hS => ?_)
        obtain ⟨hc42, h⟩ := o_c h
        obtain rfl := Option.some.inj h
        exact r_ret (v := z39) F hr hlk (nb01 hc42) dX6_isTrue_42 hsz hP hD hS
    · have h := o_t c15 h
      exact w_X6_isTrue_18 CX hK hsz z5 _ _ _ h hP hD hS (lv_sub hl [0] rfl)
section G_X6_holds
abbrev ws_X6_holds (cI cJ cB : ClassId) (a0 a_reader a_freer a_scribe a_copy a_formula a_formula_cells a_above a_below a_spans a_found : Nat) (loose : Int32) (formula_rows : Int32) (formula_cells : Nat → Int32) (formula_cells_n : Nat) (above : Nat → Int32) (below_ : Nat → Int32) (spans : Nat → Int32) (found : Nat → Int32) : va_W := [(a0, .inr (8, [.ref a_reader, .ref a_freer, .ref a_scribe, .ref a_formula, .ref a_copy, .ref a_above, .ref a_below, .ref a_spans, .ref a_found, .int loose])), (a_formula, .inr (7, [.ref a_formula_cells, .int formula_rows])), (a_formula_cells, .inl (cI, formula_cells_n, .inl formula_cells)), (a_above, .inl (cI, 8, .inl above)), (a_below, .inl (cI, 8, .inl below_)), (a_spans, .inl (cI, 400, .inl spans)), (a_found, .inl (cI, 400, .inl found))]
abbrev rm_X6_holds : Room := { frames := 3, cells := 0, slots := 0, locals := 72 }
def f_X6_holds_74 (K51 : Int32 → (Nat → Int32) → Nat → (Nat → Int32) → (Nat → Int32) → (Nat → Int32) → (Nat → Int32) → Int32 → Int32 → Option (Int32 × (Nat → Int32) × (Nat → Int32))) (N : Nat) (formula_rows : Int32) (formula_cells : Nat → Int32) (formula_cells_n : Nat) (above : Nat → Int32) (below_ : Nat → Int32) (spans : Nat → Int32) (found : Nat → Int32) (y1 : Int32) (y2 : Int32) (s1 : Int32) (s2 : Int32) : Option (Int32 × (Nat → Int32) × (Nat → Int32)) := ix s1 400 (K51 formula_rows formula_cells formula_cells_n above below_ spans (upd found s1.toNatClampNeg s2) y1 (y2 + 1))
def f_X6_holds_97 (N : Nat) (formula_rows : Int32) (formula_cells : Nat → Int32) (formula_cells_n : Nat) (above : Nat → Int32) (below_ : Nat → Int32) (spans : Nat → Int32) (found : Nat → Int32) (s0 : Int32) : Option (Int32 × (Nat → Int32) × (Nat → Int32)) := some (s0, spans, found)
def f_X6_holds_51 (N : Nat) : Nat → Int32 → (Nat → Int32) → Nat → (Nat → Int32) → (Nat → Int32) → (Nat → Int32) → (Nat → Int32) → Int32 → Int32 → Option (Int32 × (Nat → Int32) × (Nat → Int32))
  | 0 => fun _ _ _ _ _ _ _ _ _ => none
  | n + 1 => fun formula_rows formula_cells formula_cells_n above below_ spans found y1 y2 => ifb (y1 ≤ y2) (ifb (y1 ≤ 0) (f_X6_holds_97 N formula_rows formula_cells formula_cells_n above below_ spans found 1) (ix (y1 - 1) 400 (f_X6_holds_97 N formula_rows formula_cells formula_cells_n above below_ spans found (found (y1 - 1).toNatClampNeg)))) ((f_X6_isTrue N formula_rows formula_cells formula_cells_n above below_ spans found y2).bind (fun z63 => ifb (z63 = 0) (f_X6_holds_74 (f_X6_holds_51 N n) N formula_rows formula_cells formula_cells_n above below_ spans found y1 y2 y2 0) (f_X6_holds_74 (f_X6_holds_51 N n) N formula_rows formula_cells formula_cells_n above below_ spans found y1 y2 y2 1)))
def f_X6_holds (N : Nat) (formula_rows : Int32) (formula_cells : Nat → Int32) (formula_cells_n : Nat) (above : Nat → Int32) (below_ : Nat → Int32) (spans : Nat → Int32) (found : Nat → Int32) : Option (Int32 × (Nat → Int32) × (Nat → Int32)) := (f_X5_howMany N formula_rows formula_cells formula_cells_n 8 9).bind (fun z8 => ifb (z8 ≤ 0) ((f_X5_measure N formula_rows formula_cells formula_cells_n spans 400).bind (fun z46 => f_X6_holds_51 N N formula_rows formula_cells formula_cells_n above below_ z46 found (jmin formula_rows 400) 0)) (none))
variable {p : Program} {l : Launch} {e : Env} {s : State} {m : MethodId} {below : List Frame} {meth : Method} {c : Code} {args : Array Value} {x0 : Cond} {D : va_G} {cI cJ cB : ClassId} {sz N : Nat} {ws0 : va_W} {a0 a_reader a_freer a_scribe a_copy a_formula a_formula_cells a_above a_below a_spans a_found : Nat} {loose : Int32} {formula_rows : Int32} {formula_cells : Nat → Int32} {formula_cells_n : Nat} {above : Nat → Int32} {below_ : Nat → Int32} {z : Int32 × (Nat → Int32) × (Nat → Int32)}
set_option maxHeartbeats 4000000 in
set_option maxRecDepth 100000 in
theorem w_X6_holds_74 (CX : Cx p m c cX6_holds 3 s args x0 RX6 meth (some .int)) (hK : va_K D vwCl (ty0 cI cJ cB) s) (hsz : s.heap.size = sz) {K51 : Int32 → (Nat → Int32) → Nat → (Nat → Int32) → (Nat → Int32) → (Nat → Int32) → (Nat → Int32) → Int32 → Int32 → Option (Int32 × (Nat → Int32) × (Nat → Int32))} (hK51 : ∀ (spans : Nat → Int32) (found : Nat → Int32) (y1 : Int32) (y2 : Int32) (H : Heap) (locs : List Loc) (ls : Array Slot), K51 formula_rows formula_cells formula_cells_n above below_ spans found y1 y2 = some z → va_P D vwCl (ws_X6_holds cI cJ cB a0 a_reader a_freer a_scribe a_copy a_formula a_formula_cells a_above a_below a_spans a_found loose formula_rows formula_cells formula_cells_n above below_ spans found) H → va_D (va_A ws0 sz) (ws_X6_holds cI cJ cB a0 a_reader a_freer a_scribe a_copy a_formula a_formula_cells a_above a_below a_spans a_found loose formula_rows formula_cells formula_cells_n above below_ spans found) → va_S (va_A ws0 sz) s.heap H locs → lv_has ls 3 [(0, .ref a0), (1, .int y1), (2, .int y2)] → W p l e rm_X6_holds s m args below meth c H locs 0 0 (MQ below (gQ D sz ws0 (ws_X6_holds cI cJ cB a0 a_reader a_freer a_scribe a_copy a_formula a_formula_cells a_above a_below a_spans a_found loose formula_rows formula_cells formula_cells_n above below_ z.2.1 z.2.2) (some (.int z.1))) args s 0 0 (va_A ws0 sz)) (F0 m 51 ls [])) : ∀ (spans : Nat → Int32) (found : Nat → Int32) (y1 : Int32) (y2 : Int32) (s1 : Int32) (s2 : Int32) (H : Heap) (locs : List Loc) (ls : Array Slot), f_X6_holds_74 K51 N formula_rows formula_cells formula_cells_n above below_ spans found y1 y2 s1 s2 = some z → va_P D vwCl (ws_X6_holds cI cJ cB a0 a_reader a_freer a_scribe a_copy a_formula a_formula_cells a_above a_below a_spans a_found loose formula_rows formula_cells formula_cells_n above below_ spans found) H → va_D (va_A ws0 sz) (ws_X6_holds cI cJ cB a0 a_reader a_freer a_scribe a_copy a_formula a_formula_cells a_above a_below a_spans a_found loose formula_rows formula_cells formula_cells_n above below_ spans found) → va_S (va_A ws0 sz) s.heap H locs → lv_has ls 3 [(0, .ref a0), (1, .int y1), (2, .int y2)] → W p l e rm_X6_holds s m args below meth c H locs 0 0 (MQ below (gQ D sz ws0 (ws_X6_holds cI cJ cB a0 a_reader a_freer a_scribe a_copy a_formula a_formula_cells a_above a_below a_spans a_found loose formula_rows formula_cells formula_cells_n above below_ z.2.1 z.2.2) (some (.int z.1))) args s 0 0 (va_A ws0 sz)) (F0 m 74 ls [.int s2, .int s1, .ref a_found]) := by
  obtain ⟨F, hr, hlk, hNw⟩ := id CX
  have hx := F.1
  have hb := F.2.1
  have hown := F.2.2.2.1
  have hA : ∀ q, s.heap.size ≤ q → va_A ws0 sz q := fun q hq => Or.inr (hsz ▸ hq)
  intro spans found y1 y2 s1 s2 H locs ls h hP hD hS hl
  unfold f_X6_holds_74 at h
  obtain ⟨hi74, h⟩ := o_ix h
  refine r_iast (wn := (ws_X6_holds cI cJ cB a0 a_reader a_freer a_scribe a_copy a_formula a_formula_cells a_above a_below a_spans a_found loose formula_rows formula_cells formula_cells_n above below_ spans (upd found s1.toNatClampNeg s2))) F hK hP hD hS 6 0 hi74 rfl rfl rfl dX6_holds_74 (fun H locs hP hD hS => ?_)
  refine lv_iinc (v := y2 + 1) (lv' := [(2, .int (y2 + 1)), (0, .ref a0), (1, .int y1)]) hx hb dX6_holds_75 hl (k := 2) rfl rfl (by decide) rfl (fun ls hl => ?_)
  refine lv_goto (tgt := 51) hx hb dX6_holds_78 (by decide) ?_
  exact hK51 spans (upd found s1.toNatClampNeg s2) y1 (y2 + 1) _ _ _ h hP hD hS (lv_sub hl [1, 2, 0] rfl)
set_option maxHeartbeats 4000000 in
set_option maxRecDepth 100000 in
theorem w_X6_holds_97 (CX : Cx p m c cX6_holds 3 s args x0 RX6 meth (some .int)) (hK : va_K D vwCl (ty0 cI cJ cB) s) (hsz : s.heap.size = sz) : ∀ (spans : Nat → Int32) (found : Nat → Int32) (s0 : Int32) (H : Heap) (locs : List Loc) (ls : Array Slot), f_X6_holds_97 N formula_rows formula_cells formula_cells_n above below_ spans found s0 = some z → va_P D vwCl (ws_X6_holds cI cJ cB a0 a_reader a_freer a_scribe a_copy a_formula a_formula_cells a_above a_below a_spans a_found loose formula_rows formula_cells formula_cells_n above below_ spans found) H → va_D (va_A ws0 sz) (ws_X6_holds cI cJ cB a0 a_reader a_freer a_scribe a_copy a_formula a_formula_cells a_above a_below a_spans a_found loose formula_rows formula_cells formula_cells_n above below_ spans found) → va_S (va_A ws0 sz) s.heap H locs → lv_has ls 3 [] → W p l e rm_X6_holds s m args below meth c H locs 0 0 (MQ below (gQ D sz ws0 (ws_X6_holds cI cJ cB a0 a_reader a_freer a_scribe a_copy a_formula a_formula_cells a_above a_below a_spans a_found loose formula_rows formula_cells formula_cells_n above below_ z.2.1 z.2.2) (some (.int z.1))) args s 0 0 (va_A ws0 sz)) (F0 m 97 ls [.int s0]) := by
  obtain ⟨F, hr, hlk, hNw⟩ := id CX
  have hx := F.1
  have hb := F.2.1
  have hown := F.2.2.2.1
  have hA : ∀ q, s.heap.size ≤ q → va_A ws0 sz q := fun q hq => Or.inr (hsz ▸ hq)
  intro spans found s0 H locs ls h hP hD hS hl
  unfold f_X6_holds_97 at h
  obtain rfl := Option.some.inj h
  exact r_ret (v := s0) F hr hlk rfl dX6_holds_97 hsz hP hD hS
set_option maxHeartbeats 4000000 in
set_option maxRecDepth 100000 in
theorem w_X6_holds_51 (CX : Cx p m c cX6_holds 3 s args x0 RX6 meth (some .int)) (hK : va_K D vwCl (ty0 cI cJ cB) s) (hsz : s.heap.size = sz) : ∀ (n : Nat), ∀ (spans : Nat → Int32) (found : Nat → Int32) (y1 : Int32) (y2 : Int32) (H : Heap) (locs : List Loc) (ls : Array Slot), f_X6_holds_51 N n formula_rows formula_cells formula_cells_n above below_ spans found y1 y2 = some z → va_P D vwCl (ws_X6_holds cI cJ cB a0 a_reader a_freer a_scribe a_copy a_formula a_formula_cells a_above a_below a_spans a_found loose formula_rows formula_cells formula_cells_n above below_ spans found) H → va_D (va_A ws0 sz) (ws_X6_holds cI cJ cB a0 a_reader a_freer a_scribe a_copy a_formula a_formula_cells a_above a_below a_spans a_found loose formula_rows formula_cells formula_cells_n above below_ spans found) → va_S (va_A ws0 sz) s.heap H locs → lv_has ls 3 [(0, .ref a0), (1, .int y1), (2, .int y2)] → W p l e rm_X6_holds s m args below meth c H locs 0 0 (MQ below (gQ D sz ws0 (ws_X6_holds cI cJ cB a0 a_reader a_freer a_scribe a_copy a_formula a_formula_cells a_above a_below a_spans a_found loose formula_rows formula_cells formula_cells_n above below_ z.2.1 z.2.2) (some (.int z.1))) args s 0 0 (va_A ws0 sz)) (F0 m 51 ls []) := by
  obtain ⟨F, hr, hlk, hNw⟩ := id CX
  have hx := F.1
  have hb := F.2.1
  have hown := F.2.2.2.1
  have hA : ∀ q, s.heap.size ≤ q → va_A ws0 sz q := fun q hq => Or.inr (hsz ▸ hq)
  intro n
  induction n with
  | zero =>
    intro spans found y1 y2 H locs ls h
    cases h
  | succ n ih =>
    intro spans found y1 y2 H locs ls h hP hD hS hl
    unfold f_X6_holds_51 at h
    refine lv_iload_n hx hb dX6_holds_51 rfl (lv_at hl 2 rfl) ?_
    refine lv_iload_n hx hb dX6_holds_52 rfl (lv_at hl 1 rfl) ?_
    refine lv_icmp_ge (tgt := 81) hx hb dX6_holds_53 (by decide) (fun c53 => ?_) (fun c53 => ?_)
    · have h := o_t c53 h
      refine lv_iload_n hx hb dX6_holds_81 rfl (lv_at hl 1 rfl) ?_
      refine lv_if_le (tgt := 96) hx hb dX6_holds_82 (by decide) (fun c82 => ?_) (fun c82 => ?_)
      · have h := o_t c82 h
        refine lv_iconst (v := 1) hx hb dX6_holds_96 (by decide) ?_
        exact w_X6_holds_97 CX hK hsz spans found 1 _ _ _ h hP hD hS (lv_sub hl [] rfl)
      · have h := o_f c82 h
        refine lv_aload_n hx hb dX6_holds_85 rfl (lv_at hl 0 rfl) ?_
        refine r_get F hK hP 0 8 rfl inW_X6 wm_591 rfl (by decide) rfl dX6_holds_86 ?_
        refine lv_iload_n hx hb dX6_holds_89 rfl (lv_at hl 1 rfl) ?_
        refine lv_iconst (v := 1) hx hb dX6_holds_90 (by decide) ?_
        refine lv_isub hx hb dX6_holds_91 ?_
        obtain ⟨hi92, h⟩ := o_ix h
        refine va_iald hx hb hK hP 6 0 rfl rfl hi92 dX6_holds_92 ?_
        refine lv_goto (tgt := 97) hx hb dX6_holds_93 (by decide) ?_
        exact w_X6_holds_97 CX hK hsz spans found (found (y1 - 1).toNatClampNeg) _ _ _ h hP hD hS (lv_sub hl [] rfl)
    · have h := o_f c53 h
      refine lv_aload_n hx hb dX6_holds_56 rfl (lv_at hl 0 rfl) ?_
      refine r_get F hK hP 0 8 rfl inW_X6 wm_591 rfl (by decide) rfl dX6_holds_57 ?_
      refine lv_iload_n hx hb dX6_holds_60 rfl (lv_at hl 2 rfl) ?_
      refine lv_aload_n hx hb dX6_holds_61 rfl (lv_at hl 0 rfl) ?_
      refine lv_iload_n hx hb dX6_holds_62 rfl (lv_at hl 2 rfl) ?_
      obtain ⟨z63, hz63, h⟩ := o_b h
      refine k_v (wn := (ws_X6_holds cI cJ cB a0 a_reader a_freer a_scribe a_copy a_formula a_formula_cells a_above a_below a_spans a_found loose formula_rows formula_cells formula_cells_n above below_ spans found)) (As := [.int y2]) (rest := [.int y2, .ref a_found]) F hNw hK hP hD hS hA (c_X6_isTrue l D cI cJ cB a0 a_reader a_freer a_scribe a_copy a_formula a_formula_cells a_above a_below a_spans a_found _ loose formula_rows formula_cells formula_cells_n above below_ spans found y2 N hz63) wm_1049 cv_X6_isTrue [0, 1, 2, 3, 4, 5, 6] [] [0, 1, 2, 3, 4, 5, 6] (⟨rfl, rfl, rfl, by decide, rfl⟩ : Ix [0, 1, 2, 3, 4, 5, 6] [] [0, 1, 2, 3, 4, 5, 6] 7) rfl (hN_of 0 7 (by decide +kernel) rfl (by decide +kernel) rfl) rfl rfl rfl rfl ⟨rfl, rfl, by decide, by decide⟩ hl.1 rfl (Nat.le_of_ble_eq_true rfl) ⟨Nat.zero_le _, Nat.zero_le _⟩ dX6_holds_63 (fun H locs hP hD hS => ?_)
      refine lv_if_eq (tgt := 73) hx hb dX6_holds_66 (by decide) (fun c66 => ?_) (fun c66 => ?_)
      · have h := o_t c66 h
        refine lv_iconst (v := 0) hx hb dX6_holds_73 (by decide) ?_
        exact w_X6_holds_74 CX hK hsz (hK51 := ih) spans found y1 y2 y2 0 _ _ _ h hP hD hS (lv_sub hl [0, 1, 2] rfl)
      · have h := o_f c66 h
        refine lv_iconst (v := 1) hx hb dX6_holds_69 (by decide) ?_
        refine lv_goto (tgt := 74) hx hb dX6_holds_70 (by decide) ?_
        exact w_X6_holds_74 CX hK hsz (hK51 := ih) spans found y1 y2 y2 1 _ _ _ h hP hD hS (lv_sub hl [0, 1, 2] rfl)
end G_X6_holds
set_option maxHeartbeats 4000000 in
set_option maxRecDepth 100000 in
theorem c_X6_holds (l : Launch) (D : va_G) (cI cJ cB : ClassId) (a0 a_reader a_freer a_scribe a_copy a_formula a_formula_cells a_above a_below a_spans a_found : Nat) (sz : Nat) (loose : Int32) (formula_rows : Int32) (formula_cells : Nat → Int32) (formula_cells_n : Nat) (above : Nat → Int32) (below_ : Nat → Int32) (spans : Nat → Int32) (found : Nat → Int32) (N : Nat) {z : Int32 × (Nat → Int32) × (Nat → Int32)} (h : f_X6_holds N formula_rows formula_cells formula_cells_n above below_ spans found = some z) : Mg l yX6_holds cX6_holds 3 (some .int) rm_X6_holds D (ty0 cI cJ cB) [.ref a0] sz (ws_X6_holds cI cJ cB a0 a_reader a_freer a_scribe a_copy a_formula a_formula_cells a_above a_below a_spans a_found loose formula_rows formula_cells formula_cells_n above below_ spans found) (some (.int z.1)) (ws_X6_holds cI cJ cB a0 a_reader a_freer a_scribe a_copy a_formula a_formula_cells a_above a_below a_spans a_found loose formula_rows formula_cells formula_cells_n above below_ z.2.1 z.2.2) := by
  refine Mg.of (by decide) (Nat.le_of_ble_eq_true rfl) ?_
  intro p e s m below meth c CX hK hsz hP hD ls hl
  have CX : Cx p m c cX6_holds 3 s ([.ref a0] : List Value).toArray (Cond.code yX6_holds cX6_holds 3 (some .int)) RX6 meth (some .int) := CX
  obtain ⟨F, hr, hlk, hNw⟩ := id CX
  have hx := F.1
  have hb := F.2.1
  have hown := F.2.2.2.1
  have hl : lv_has ls 3 [(0, .ref a0)] := hl
  have hS : va_S (va_A (ws_X6_holds cI cJ cB a0 a_reader a_freer a_scribe a_copy a_formula a_formula_cells a_above a_below a_spans a_found loose formula_rows formula_cells formula_cells_n above below_ spans found) sz) s.heap s.heap [] := va_S.rf
  have hA : ∀ q, s.heap.size ≤ q → va_A (ws_X6_holds cI cJ cB a0 a_reader a_freer a_scribe a_copy a_formula a_formula_cells a_above a_below a_spans a_found loose formula_rows formula_cells formula_cells_n above below_ spans found) sz q := fun q hq => Or.inr (hsz ▸ hq)
  unfold f_X6_holds at h
  refine lv_aload_n hx hb dX6_holds_0 rfl (lv_at hl 0 rfl) ?_
  refine r_get F hK hP 0 3 rfl inW_X6 wm_586 rfl (by decide) rfl dX6_holds_1 ?_
  refine lv_bipush (v := 8) hx hb dX6_holds_4 (by decide) ?_
  refine lv_bipush (v := 9) hx hb dX6_holds_6 (by decide) ?_
  obtain ⟨z8, hz8, h⟩ := o_b h
  refine k_v (wn := (ws_X6_holds cI cJ cB a0 a_reader a_freer a_scribe a_copy a_formula a_formula_cells a_above a_below a_spans a_found loose formula_rows formula_cells formula_cells_n above below_ spans found)) (As := [.int 8, .int 9]) (rest := []) F hNw hK hP hD hS hA (c_X5_howMany l D cI cJ cB a_formula a_formula_cells _ formula_rows formula_cells formula_cells_n 8 9 N hz8) wm_1028 cv_X5_howMany [1, 2] [0, 3, 4, 5, 6] [0, 5, 6, 1, 2, 3, 4] (⟨rfl, rfl, rfl, by decide, rfl⟩ : Ix [1, 2] [0, 3, 4, 5, 6] [0, 5, 6, 1, 2, 3, 4] 7) rfl (hN_of 5 7 (by decide +kernel) rfl (by decide +kernel) rfl) rfl rfl rfl rfl ⟨rfl, rfl, by decide, by decide⟩ hl.1 rfl (Nat.le_of_ble_eq_true rfl) ⟨Nat.zero_le _, Nat.zero_le _⟩ dX6_holds_8 (fun H locs hP hD hS => ?_)
  refine lv_if_le (tgt := 24) hx hb dX6_holds_11 (by decide) (fun c11 => ?_) (fun c11 => ?_)
  · have h := o_t c11 h
    refine lv_aload_n hx hb dX6_holds_24 rfl (lv_at hl 0 rfl) ?_
    refine r_get F hK hP 0 3 rfl inW_X6 wm_586 rfl (by decide) rfl dX6_holds_25 ?_
    refine r_getN F hNw hK hP 1 1 rfl inW_X5 nf_X6_104 rfl (by decide) rfl dX6_holds_28 ?_
    refine lv_sipush (v := 400) hx hb dX6_holds_31 (by decide) ?_
    refine va_mmin hx hb (F.2.2.1.trans hl.1.symm) hown (F.2.2.2.2 _ (q_in wm_977)) (F.2.2.2.2 _ (q_in wm_391)) (F.2.2.2.2 _ (q_in wm_75)) (F.2.2.2.2 _ (q_in wm_392)) (Nat.le_of_ble_eq_true rfl) (Nat.le_of_ble_eq_true rfl) (Nat.zero_le _) (Nat.zero_le _) dX6_holds_34 ?_
    refine lv_istore_n (lv' := [(1, .int (jmin formula_rows 400)), (0, .ref a0)]) hx hb dX6_holds_37 rfl hl (by decide) rfl (fun ls hl => ?_)
    refine lv_aload_n hx hb dX6_holds_38 rfl (lv_at hl 1 rfl) ?_
    refine r_get F hK hP 0 3 rfl inW_X6 wm_586 rfl (by decide) rfl dX6_holds_39 ?_
    refine lv_aload_n hx hb dX6_holds_42 rfl (lv_at hl 1 rfl) ?_
    refine r_get F hK hP 0 7 rfl inW_X6 wm_590 rfl (by decide) rfl dX6_holds_43 ?_
    obtain ⟨z46, hz46, h⟩ := o_b h
    refine k_v (wn := (ws_X6_holds cI cJ cB a0 a_reader a_freer a_scribe a_copy a_formula a_formula_cells a_above a_below a_spans a_found loose formula_rows formula_cells formula_cells_n above below_ z46 found)) (As := [.ref a_spans]) (rest := []) F hNw hK hP hD hS hA (c_X5_measure l D cI cJ cB a_formula a_formula_cells a_spans _ formula_rows formula_cells formula_cells_n spans 400 N hz46) wm_1048 cv_X5_measure [1, 2, 5] [0, 3, 4, 6] [0, 4, 5, 1, 2, 6, 3] (⟨rfl, rfl, rfl, by decide, rfl⟩ : Ix [1, 2, 5] [0, 3, 4, 6] [0, 4, 5, 1, 2, 6, 3] 7) rfl (hN_of 4 7 (by decide +kernel) rfl (by decide +kernel) rfl) rfl rfl rfl rfl ⟨rfl, rfl, by decide, by decide⟩ hl.1 rfl (Nat.le_of_ble_eq_true rfl) ⟨Nat.zero_le _, Nat.zero_le _⟩ dX6_holds_46 (fun H locs hP hD hS => ?_)
    refine lv_iconst (v := 0) hx hb dX6_holds_49 (by decide) ?_
    refine lv_istore_n (lv' := [(2, .int 0), (1, .int (jmin formula_rows 400)), (0, .ref a0)]) hx hb dX6_holds_50 rfl hl (by decide) rfl (fun ls hl => ?_)
    exact w_X6_holds_51 CX hK hsz N z46 found (jmin formula_rows 400) 0 _ _ _ h hP hD hS (lv_sub hl [2, 1, 0] rfl)
  · have h := o_f c11 h
    cases h
