theorem pdq_0 : (parseMethodDescriptor "([JJ)V").map (fun d => d.parameters.length) = some 2 := by decide +kernel
theorem ncq_0 : "java/util/Arrays" ≠ "java/lang/invoke/MethodHandle" ∧ "java/util/Arrays" ≠ "java/lang/invoke/VarHandle" := by decide +kernel
theorem pdq_1 : (parseMethodDescriptor "([IIII)V").map (fun d => d.parameters.length) = some 4 := by decide +kernel
theorem pdq_2 : (parseMethodDescriptor "(III)V").map (fun d => d.parameters.length) = some 3 := by decide +kernel
theorem pdq_3 : (parseMethodDescriptor "()J").map (fun d => d.parameters.length) = some 0 := by decide +kernel
theorem ncq_1 : "LinearTruths$Sum" ≠ "java/lang/invoke/MethodHandle" ∧ "LinearTruths$Sum" ≠ "java/lang/invoke/VarHandle" := by decide +kernel
theorem pdq_4 : (parseMethodDescriptor "(IJ)Z").map (fun d => d.parameters.length) = some 2 := by decide +kernel
theorem pdq_5 : (parseMethodDescriptor "()V").map (fun d => d.parameters.length) = some 0 := by decide +kernel
theorem pdq_6 : (parseMethodDescriptor "(LLinearTruths$Tree;II)V").map (fun d => d.parameters.length) = some 3 := by decide +kernel
theorem ncq_2 : "LinearTruths$Tree" ≠ "java/lang/invoke/MethodHandle" ∧ "LinearTruths$Tree" ≠ "java/lang/invoke/VarHandle" := by decide +kernel
theorem inW_X5 : ∀ w ∈ u_ws RX5 TX5 2, w ∈ W0 := q_ls [(1, 61), (1, 63)] (by decide +kernel) (by decide +kernel)
theorem inW_X4 : ∀ w ∈ u_ws RX4 TX4 1, w ∈ W0 := q_ls [(1, 91)] (by decide +kernel) (by decide +kernel)
theorem wm_75 : (Cond.initialized "java/lang/Math") ∈ W0 := q_l 1 5 (by decide +kernel) (by decide +kernel)
theorem wm_89 : (Cond.initialized "java/lang/System") ∈ W0 := q_l 1 19 (by decide +kernel) (by decide +kernel)
theorem wm_122 : (Cond.methodLink "LinearTruths$Tree" 9 yJ9_max_7cf53) ∈ W0 := q_l 1 52 (by decide +kernel) (by decide +kernel)
theorem wm_123 : (Cond.static yJ9_max_7cf53) ∈ W0 := q_l 1 53 (by decide +kernel) (by decide +kernel)
theorem wm_124 : (Cond.code yJ9_max_7cf53 prog_16_method_65_code 2 (some Jvm.ClassFile.FieldType.int)) ∈ W0 := q_l 1 54 (by decide +kernel) (by decide +kernel)
theorem wm_125 : (Cond.fieldLink "LinearTruths$Tree" 15 "LinearTruths$Tree" "cells" "[I") ∈ W0 := q_l 1 55 (by decide +kernel) (by decide +kernel)
theorem wm_126 : (Cond.fieldLink "LinearTruths$Tree" 21 "LinearTruths$Tree" "rows" "I") ∈ W0 := q_l 1 56 (by decide +kernel) (by decide +kernel)
theorem wm_159 : (Cond.fieldLink "LinearTruths$Sum" 9 "LinearTruths$Sum" "numbers" "[J") ∈ W0 := q_l 1 89 (by decide +kernel) (by decide +kernel)
theorem wm_273 : (Cond.methodLink "LinearTruths$Tree" 34 yJ7_fill_fda19) ∈ W0 := q_l 1 203 (by decide +kernel) (by decide +kernel)
theorem wm_276 : (Cond.methodLink "java/util/Arrays" 13 yJ7_rangeCheck_23922) ∈ W0 := q_l 1 206 (by decide +kernel) (by decide +kernel)
theorem wm_391 : (Cond.static yJ9_min_7cf53) ∈ W0 := q_l 2 81 (by decide +kernel) (by decide +kernel)
theorem wm_392 : (Cond.code yJ9_min_7cf53 prog_16_method_69_code 2 (some Jvm.ClassFile.FieldType.int)) ∈ W0 := q_l 2 82 (by decide +kernel) (by decide +kernel)
theorem wm_394 : (Cond.static ⟨"java/lang/System", "arraycopy", "(Ljava/lang/Object;ILjava/lang/Object;II)V"⟩) ∈ W0 := q_l 2 84 (by decide +kernel) (by decide +kernel)
theorem wm_395 : (Cond.native ⟨"java/lang/System", "arraycopy", "(Ljava/lang/Object;ILjava/lang/Object;II)V"⟩) ∈ W0 := q_l 2 85 (by decide +kernel) (by decide +kernel)
theorem wm_678 : (Cond.methodLink "LinearTruths$Sum" 15 yJ7_fill_d0a16) ∈ W0 := q_l 3 128 (by decide +kernel) (by decide +kernel)
theorem wm_717 : (Cond.methodLink "LinearTruths$Sum" 21 yX4_isTrue) ∈ W0 := q_l 3 167 (by decide +kernel) (by decide +kernel)
theorem wm_720 : (Cond.methodLink "LinearTruths$Sum" 25 yX4_commonDivisor) ∈ W0 := q_l 3 170 (by decide +kernel) (by decide +kernel)
theorem wm_724 : (Cond.methodLink "LinearTruths$Sum" 29 yJ9_abs_067f4) ∈ W0 := q_l 3 174 (by decide +kernel) (by decide +kernel)
theorem wm_725 : (Cond.static yJ9_abs_067f4) ∈ W0 := q_l 3 175 (by decide +kernel) (by decide +kernel)
theorem wm_726 : (Cond.code yJ9_abs_067f4 prog_16_method_61_code 2 (some Jvm.ClassFile.FieldType.long)) ∈ W0 := q_l 3 176 (by decide +kernel) (by decide +kernel)
theorem wm_727 : (Cond.constantLong "LinearTruths$Sum" 35 1000000000) ∈ W0 := q_l 3 177 (by decide +kernel) (by decide +kernel)
theorem wm_728 : (Cond.methodLink "LinearTruths$Sum" 37 yX4_turn) ∈ W0 := q_l 3 178 (by decide +kernel) (by decide +kernel)
theorem wm_776 : (Cond.methodLink "LinearTruths$Tree" 38 ⟨"java/lang/System", "arraycopy", "(Ljava/lang/Object;ILjava/lang/Object;II)V"⟩) ∈ W0 := q_l 3 226 (by decide +kernel) (by decide +kernel)
theorem wm_785 : (Cond.methodLink "LinearTruths$Tree" 25 yJ9_min_7cf53) ∈ W0 := q_l 3 235 (by decide +kernel) (by decide +kernel)
theorem wm_811 : (Cond.methodLink "LinearTruths$Tree" 44 yX5_append) ∈ W0 := q_l 4 21 (by decide +kernel) (by decide +kernel)
theorem cs_J7_fill_d0a16 : Cs yJ7_fill_d0a16 cJ7_fill_d0a16 5 none 2 := ⟨q_l 3 129 (by decide +kernel) (by decide +kernel), q_l 1 9 (by decide +kernel) (by decide +kernel), q_l 3 130 rfl (by decide +kernel), ⟨ncq_0.1, ncq_0.2, pdq_0⟩⟩
theorem cs_J7_fill_fda19 : Cs yJ7_fill_fda19 cJ7_fill_fda19 5 none 4 := ⟨q_l 1 204 (by decide +kernel) (by decide +kernel), q_l 1 9 (by decide +kernel) (by decide +kernel), q_l 1 205 rfl (by decide +kernel), ⟨ncq_0.1, ncq_0.2, pdq_1⟩⟩
theorem cs_J7_rangeCheck_23922 : Cs yJ7_rangeCheck_23922 cJ7_rangeCheck_23922 3 none 3 := ⟨q_l 1 207 (by decide +kernel) (by decide +kernel), q_l 1 9 (by decide +kernel) (by decide +kernel), q_l 1 208 rfl (by decide +kernel), ⟨ncq_0.1, ncq_0.2, pdq_2⟩⟩
theorem cv_X4_commonDivisor : Cv RX4 yX4_commonDivisor cX4_commonDivisor 9 (some .long) 0 := ⟨q_l 3 172 (by decide +kernel) (by decide +kernel), q_l 0 14 (by decide +kernel) (by decide +kernel), q_l 1 6 (by decide +kernel) (by decide +kernel), q_l 3 173 rfl (by decide +kernel), ⟨rfl, ncq_1.1, ncq_1.2, pdq_3⟩⟩
theorem cs_X4_isTrue : Cs yX4_isTrue cX4_isTrue 3 (some .boolean) 2 := ⟨q_l 3 168 (by decide +kernel) (by decide +kernel), q_l 1 6 (by decide +kernel) (by decide +kernel), q_l 3 169 rfl (by decide +kernel), ⟨ncq_1.1, ncq_1.2, pdq_4⟩⟩
theorem cv_X4_turn : Cv RX4 yX4_turn cX4_turn 2 none 0 := ⟨q_l 3 156 (by decide +kernel) (by decide +kernel), q_l 3 157 (by decide +kernel) (by decide +kernel), q_l 1 6 (by decide +kernel) (by decide +kernel), q_l 3 158 rfl (by decide +kernel), ⟨rfl, ncq_1.1, ncq_1.2, pdq_5⟩⟩
theorem cv_X5_append : Cv RX5 yX5_append cX5_append 5 none 3 := ⟨q_l 4 22 (by decide +kernel) (by decide +kernel), q_l 4 23 (by decide +kernel) (by decide +kernel), q_l 1 4 (by decide +kernel) (by decide +kernel), q_l 4 24 rfl (by decide +kernel), ⟨rfl, ncq_2.1, ncq_2.2, pdq_6⟩⟩
section G_J7_fill_53178
abbrev ws_J7_fill_53178 (cI cJ cB : ClassId) (a_p1 : Nat) (p1 : Nat → Int32) (p1_n : Nat) : va_W := [(a_p1, .inl (cI, p1_n, .inl p1))]
abbrev rm_J7_fill_53178 : Room := { frames := 0, cells := 0, slots := 0, locals := 0 }
def f_J7_fill_53178_5 (N : Nat) : Nat → (Nat → Int32) → Nat → Int32 → Int32 → Int32 → Option ((Nat → Int32))
  | 0 => fun _ _ _ _ _ => none
  | n + 1 => fun p1 p1_n y1 y2 y3 => ifb (y3 ≤ y2) (some p1) (ix y2 p1_n (f_J7_fill_53178_5 N n (upd p1 y2.toNatClampNeg y1) p1_n y1 (y2 + 1) y3))
def f_J7_fill_53178 (N : Nat) (p1 : Nat → Int32) (p1_n : Nat) (x2 : Int32) : Option ((Nat → Int32)) := f_J7_fill_53178_5 N N p1 p1_n x2 0 (Int32.ofNat p1_n)
variable {p : Program} {l : Launch} {e : Env} {s : State} {m : MethodId} {below : List Frame} {meth : Method} {c : Code} {args : Array Value} {x0 : Cond} {D : va_G} {cI cJ cB : ClassId} {sz N : Nat} {ws0 : va_W} {a_p1 : Nat} {p1_n : Nat} {z : (Nat → Int32)}
set_option maxHeartbeats 4000000 in
set_option maxRecDepth 100000 in
theorem w_J7_fill_53178_5 (CX : Cx p m c cJ7_fill_53178 4 s args x0 RJ7 meth none) (hK : va_K D vwCl (ty0 cI cJ cB) s) (hsz : s.heap.size = sz) : ∀ (n : Nat), ∀ (p1 : Nat → Int32) (y1 : Int32) (y2 : Int32) (y3 : Int32) (H : Heap) (locs : List Loc) (ls : Array Slot), f_J7_fill_53178_5 N n p1 p1_n y1 y2 y3 = some z → va_P D vwCl (ws_J7_fill_53178 cI cJ cB a_p1 p1 p1_n) H → va_D (va_A ws0 sz) (ws_J7_fill_53178 cI cJ cB a_p1 p1 p1_n) → va_S (va_A ws0 sz) s.heap H locs → lv_has ls 4 [(0, .ref a_p1), (1, .int y1), (2, .int y2), (3, .int y3)] → W p l e rm_J7_fill_53178 s m args below meth c H locs 0 0 (MQ below (gQ D sz ws0 (ws_J7_fill_53178 cI cJ cB a_p1 z p1_n) none) args s 0 0 (va_A ws0 sz)) (F0 m 5 ls []) := by
  obtain ⟨F, hr, hlk, hNw⟩ := id CX
  have hx := F.1
  have hb := F.2.1
  have hown := F.2.2.2.1
  have hA : ∀ q, s.heap.size ≤ q → va_A ws0 sz q := fun q hq => Or.inr (hsz ▸ hq)
  intro n
  induction n with
  | zero =>
    intro p1 y1 y2 y3 H locs ls h
    cases h
  | succ n ih =>
    intro p1 y1 y2 y3 H locs ls h hP hD hS hl
    unfold f_J7_fill_53178_5 at h
    refine lv_iload_n hx hb dJ7_fill_53178_5 rfl (lv_at hl 2 rfl) ?_
    refine lv_iload_n hx hb dJ7_fill_53178_6 rfl (lv_at hl 3 rfl) ?_
    refine lv_icmp_ge (tgt := 20) hx hb dJ7_fill_53178_7 (by decide) (fun c7 => ?_) (fun c7 => ?_)
    · have h := o_t c7 h
      obtain rfl := Option.some.inj h
      exact r_vret F hr hlk dJ7_fill_53178_20 hsz hP hD hS
    · have h := o_f c7 h
      refine lv_aload_n hx hb dJ7_fill_53178_10 rfl (lv_at hl 0 rfl) ?_
      refine lv_iload_n hx hb dJ7_fill_53178_11 rfl (lv_at hl 2 rfl) ?_
      refine lv_iload_n hx hb dJ7_fill_53178_12 rfl (lv_at hl 1 rfl) ?_
      obtain ⟨hi13, h⟩ := o_ix h
      refine r_iast (wn := (ws_J7_fill_53178 cI cJ cB a_p1 (upd p1 y2.toNatClampNeg y1) p1_n)) F hK hP hD hS 0 0 hi13 rfl rfl rfl dJ7_fill_53178_13 (fun H locs hP hD hS => ?_)
      refine lv_iinc (v := y2 + 1) (lv' := [(2, .int (y2 + 1)), (0, .ref a_p1), (1, .int y1), (3, .int y3)]) hx hb dJ7_fill_53178_14 hl (k := 2) rfl rfl (by decide) rfl (fun ls hl => ?_)
      refine lv_goto (tgt := 5) hx hb dJ7_fill_53178_17 (by decide) ?_
      exact ih (upd p1 y2.toNatClampNeg y1) y1 (y2 + 1) y3 _ _ _ h hP hD hS (lv_sub hl [1, 2, 0, 3] rfl)
end G_J7_fill_53178
set_option maxHeartbeats 4000000 in
set_option maxRecDepth 100000 in
theorem c_J7_fill_53178 (l : Launch) (D : va_G) (cI cJ cB : ClassId) (a_p1 : Nat) (sz : Nat) (p1 : Nat → Int32) (p1_n : Nat) (x2 : Int32) (N : Nat) {z : (Nat → Int32)} (h : f_J7_fill_53178 N p1 p1_n x2 = some z) : Mg l yJ7_fill_53178 cJ7_fill_53178 4 none rm_J7_fill_53178 D (ty0 cI cJ cB) [.ref a_p1, .int x2] sz (ws_J7_fill_53178 cI cJ cB a_p1 p1 p1_n) none (ws_J7_fill_53178 cI cJ cB a_p1 z p1_n) := by
  refine Mg.of (by decide) (Nat.le_of_ble_eq_true rfl) ?_
  intro p e s m below meth c CX hK hsz hP hD ls hl
  have CX : Cx p m c cJ7_fill_53178 4 s ([.ref a_p1, .int x2] : List Value).toArray (Cond.code yJ7_fill_53178 cJ7_fill_53178 4 none) RJ7 meth none := CX
  obtain ⟨F, hr, hlk, hNw⟩ := id CX
  have hx := F.1
  have hb := F.2.1
  have hown := F.2.2.2.1
  have hl : lv_has ls 4 [(0, .ref a_p1), (1, .int x2)] := hl
  have hS : va_S (va_A (ws_J7_fill_53178 cI cJ cB a_p1 p1 p1_n) sz) s.heap s.heap [] := va_S.rf
  have hA : ∀ q, s.heap.size ≤ q → va_A (ws_J7_fill_53178 cI cJ cB a_p1 p1 p1_n) sz q := fun q hq => Or.inr (hsz ▸ hq)
  unfold f_J7_fill_53178 at h
  refine lv_iconst (v := 0) hx hb dJ7_fill_53178_0 (by decide) ?_
  refine lv_istore_n (lv' := [(2, .int 0), (0, .ref a_p1), (1, .int x2)]) hx hb dJ7_fill_53178_1 rfl hl (by decide) rfl (fun ls hl => ?_)
  refine lv_aload_n hx hb dJ7_fill_53178_2 rfl (lv_at hl 1 rfl) ?_
  refine va_alen (v := (Int32.ofNat p1_n)) hx hb hK hP 0 0 rfl rfl rfl dJ7_fill_53178_3 ?_
  refine lv_istore_n (lv' := [(3, .int (Int32.ofNat p1_n)), (2, .int 0), (0, .ref a_p1), (1, .int x2)]) hx hb dJ7_fill_53178_4 rfl hl (by decide) rfl (fun ls hl => ?_)
  exact w_J7_fill_53178_5 CX hK hsz N p1 x2 0 (Int32.ofNat p1_n) _ _ _ h hP hD hS (lv_sub hl [2, 3, 1, 0] rfl)
section G_J7_fill_d0a16
abbrev ws_J7_fill_d0a16 (cI cJ cB : ClassId) (a_p1 : Nat) (p1 : Nat → Int64) (p1_n : Nat) : va_W := [(a_p1, .inl (cJ, p1_n, .inr (.inl p1)))]
abbrev rm_J7_fill_d0a16 : Room := { frames := 0, cells := 0, slots := 0, locals := 0 }
def f_J7_fill_d0a16_6 (N : Nat) : Nat → (Nat → Int64) → Nat → Int64 → Int32 → Int32 → Option ((Nat → Int64))
  | 0 => fun _ _ _ _ _ => none
  | n + 1 => fun p1 p1_n y1 y3 y4 => ifb (y4 ≤ y3) (some p1) (ix y3 p1_n (f_J7_fill_d0a16_6 N n (vp_updL p1 y3.toNatClampNeg y1) p1_n y1 (y3 + 1) y4))
def f_J7_fill_d0a16 (N : Nat) (p1 : Nat → Int64) (p1_n : Nat) (x2 : Int64) : Option ((Nat → Int64)) := f_J7_fill_d0a16_6 N N p1 p1_n x2 0 (Int32.ofNat p1_n)
variable {p : Program} {l : Launch} {e : Env} {s : State} {m : MethodId} {below : List Frame} {meth : Method} {c : Code} {args : Array Value} {x0 : Cond} {D : va_G} {cI cJ cB : ClassId} {sz N : Nat} {ws0 : va_W} {a_p1 : Nat} {p1_n : Nat} {z : (Nat → Int64)}
set_option maxHeartbeats 4000000 in
set_option maxRecDepth 100000 in
theorem w_J7_fill_d0a16_6 (CX : Cx p m c cJ7_fill_d0a16 5 s args x0 RJ7 meth none) (hK : va_K D vwCl (ty0 cI cJ cB) s) (hsz : s.heap.size = sz) : ∀ (n : Nat), ∀ (p1 : Nat → Int64) (y1 : Int64) (y3 : Int32) (y4 : Int32) (H : Heap) (locs : List Loc) (ls : Array Slot), f_J7_fill_d0a16_6 N n p1 p1_n y1 y3 y4 = some z → va_P D vwCl (ws_J7_fill_d0a16 cI cJ cB a_p1 p1 p1_n) H → va_D (va_A ws0 sz) (ws_J7_fill_d0a16 cI cJ cB a_p1 p1 p1_n) → va_S (va_A ws0 sz) s.heap H locs → lv_has ls 5 [(0, .ref a_p1), (1, .long y1), (3, .int y3), (4, .int y4)] → W p l e rm_J7_fill_d0a16 s m args below meth c H locs 0 0 (MQ below (gQ D sz ws0 (ws_J7_fill_d0a16 cI cJ cB a_p1 z p1_n) none) args s 0 0 (va_A ws0 sz)) (F0 m 6 ls []) := by
  obtain ⟨F, hr, hlk, hNw⟩ := id CX
  have hx := F.1
  have hb := F.2.1
  have hown := F.2.2.2.1
  have hA : ∀ q, s.heap.size ≤ q → va_A ws0 sz q := fun q hq => Or.inr (hsz ▸ hq)
  intro n
  induction n with
  | zero =>
    intro p1 y1 y3 y4 H locs ls h
    cases h
  | succ n ih =>
    intro p1 y1 y3 y4 H locs ls h hP hD hS hl
    unfold f_J7_fill_d0a16_6 at h
    refine lv_iload_n hx hb dJ7_fill_d0a16_6 rfl (lv_at hl 2 rfl) ?_
    refine lv_iload hx hb dJ7_fill_d0a16_7 (lv_at hl 3 rfl) ?_
    refine lv_icmp_ge (tgt := 22) hx hb dJ7_fill_d0a16_9 (by decide) (fun c9 => ?_) (fun c9 => ?_)
    · have h := o_t c9 h
      obtain rfl := Option.some.inj h
      exact r_vret F hr hlk dJ7_fill_d0a16_22 hsz hP hD hS
    · have h := o_f c9 h
      refine lv_aload_n hx hb dJ7_fill_d0a16_12 rfl (lv_at hl 0 rfl) ?_
      refine lv_iload_n hx hb dJ7_fill_d0a16_13 rfl (lv_at hl 2 rfl) ?_
      refine lv_lload_n hx hb dJ7_fill_d0a16_14 rfl (lv_at hl 1 rfl) ?_
      obtain ⟨hi15, h⟩ := o_ix h
      refine r_last (wn := (ws_J7_fill_d0a16 cI cJ cB a_p1 (vp_updL p1 y3.toNatClampNeg y1) p1_n)) F hK hP hD hS 0 1 hi15 rfl rfl rfl dJ7_fill_d0a16_15 (fun H locs hP hD hS => ?_)
      refine lv_iinc (v := y3 + 1) (lv' := [(3, .int (y3 + 1)), (0, .ref a_p1), (1, .long y1), (4, .int y4)]) hx hb dJ7_fill_d0a16_16 hl (k := 2) rfl rfl (by decide) rfl (fun ls hl => ?_)
      refine lv_goto (tgt := 6) hx hb dJ7_fill_d0a16_19 (by decide) ?_
      exact ih (vp_updL p1 y3.toNatClampNeg y1) y1 (y3 + 1) y4 _ _ _ h hP hD hS (lv_sub hl [1, 2, 0, 3] rfl)
end G_J7_fill_d0a16
set_option maxHeartbeats 4000000 in
set_option maxRecDepth 100000 in
theorem c_J7_fill_d0a16 (l : Launch) (D : va_G) (cI cJ cB : ClassId) (a_p1 : Nat) (sz : Nat) (p1 : Nat → Int64) (p1_n : Nat) (x2 : Int64) (N : Nat) {z : (Nat → Int64)} (h : f_J7_fill_d0a16 N p1 p1_n x2 = some z) : Mg l yJ7_fill_d0a16 cJ7_fill_d0a16 5 none rm_J7_fill_d0a16 D (ty0 cI cJ cB) [.ref a_p1, .long x2] sz (ws_J7_fill_d0a16 cI cJ cB a_p1 p1 p1_n) none (ws_J7_fill_d0a16 cI cJ cB a_p1 z p1_n) := by
  refine Mg.of (by decide) (Nat.le_of_ble_eq_true rfl) ?_
  intro p e s m below meth c CX hK hsz hP hD ls hl
  have CX : Cx p m c cJ7_fill_d0a16 5 s ([.ref a_p1, .long x2] : List Value).toArray (Cond.code yJ7_fill_d0a16 cJ7_fill_d0a16 5 none) RJ7 meth none := CX
  obtain ⟨F, hr, hlk, hNw⟩ := id CX
  have hx := F.1
  have hb := F.2.1
  have hown := F.2.2.2.1
  have hl : lv_has ls 5 [(0, .ref a_p1), (1, .long x2)] := hl
  have hS : va_S (va_A (ws_J7_fill_d0a16 cI cJ cB a_p1 p1 p1_n) sz) s.heap s.heap [] := va_S.rf
  have hA : ∀ q, s.heap.size ≤ q → va_A (ws_J7_fill_d0a16 cI cJ cB a_p1 p1 p1_n) sz q := fun q hq => Or.inr (hsz ▸ hq)
  unfold f_J7_fill_d0a16 at h
  refine lv_iconst (v := 0) hx hb dJ7_fill_d0a16_0 (by decide) ?_
  refine lv_istore_n (lv' := [(3, .int 0), (0, .ref a_p1), (1, .long x2)]) hx hb dJ7_fill_d0a16_1 rfl hl (by decide) rfl (fun ls hl => ?_)
  refine lv_aload_n hx hb dJ7_fill_d0a16_2 rfl (lv_at hl 1 rfl) ?_
  refine va_alen (v := (Int32.ofNat p1_n)) hx hb hK hP 0 1 rfl rfl rfl dJ7_fill_d0a16_3 ?_
  refine lv_istore (lv' := [(4, .int (Int32.ofNat p1_n)), (3, .int 0), (0, .ref a_p1), (1, .long x2)]) hx hb dJ7_fill_d0a16_4 hl (by decide) rfl (fun ls hl => ?_)
  exact w_J7_fill_d0a16_6 CX hK hsz N p1 x2 0 (Int32.ofNat p1_n) _ _ _ h hP hD hS (lv_sub hl [2, 3, 1, 0] rfl)
section G_J7_rangeCheck_23922
abbrev ws_J7_rangeCheck_23922 (cI cJ cB : ClassId) : va_W := []
abbrev rm_J7_rangeCheck_23922 : Room := { frames := 0, cells := 0, slots := 0, locals := 0 }
def f_J7_rangeCheck_23922 (N : Nat) (x1 : Int32) (x2 : Int32) (x3 : Int32) : Option (Unit) := ifb (x2 ≤ x3) (ifb (0 ≤ x2) (ifb (x3 ≤ x1) (some ()) (none)) (none)) (none)
variable {p : Program} {l : Launch} {e : Env} {s : State} {m : MethodId} {below : List Frame} {meth : Method} {c : Code} {args : Array Value} {x0 : Cond} {D : va_G} {cI cJ cB : ClassId} {sz N : Nat} {ws0 : va_W} {z : Unit}
end G_J7_rangeCheck_23922
set_option maxHeartbeats 4000000 in
set_option maxRecDepth 100000 in
theorem c_J7_rangeCheck_23922 (l : Launch) (D : va_G) (cI cJ cB : ClassId) (sz : Nat) (x1 : Int32) (x2 : Int32) (x3 : Int32) (N : Nat) {z : Unit} (h : f_J7_rangeCheck_23922 N x1 x2 x3 = some z) : Mg l yJ7_rangeCheck_23922 cJ7_rangeCheck_23922 3 none rm_J7_rangeCheck_23922 D (ty0 cI cJ cB) [.int x1, .int x2, .int x3] sz (ws_J7_rangeCheck_23922 cI cJ cB) none (ws_J7_rangeCheck_23922 cI cJ cB) := by
  refine Mg.of (by decide) (Nat.le_of_ble_eq_true rfl) ?_
  intro p e s m below meth c CX hK hsz hP hD ls hl
  have CX : Cx p m c cJ7_rangeCheck_23922 3 s ([.int x1, .int x2, .int x3] : List Value).toArray (Cond.code yJ7_rangeCheck_23922 cJ7_rangeCheck_23922 3 none) RJ7 meth none := CX
  obtain ⟨F, hr, hlk, hNw⟩ := id CX
  have hx := F.1
  have hb := F.2.1
  have hown := F.2.2.2.1
  have hl : lv_has ls 3 [(0, .int x1), (1, .int x2), (2, .int x3)] := hl
  have hS : va_S (va_A (ws_J7_rangeCheck_23922 cI cJ cB) sz) s.heap s.heap [] := va_S.rf
  have hA : ∀ q, s.heap.size ≤ q → va_A (ws_J7_rangeCheck_23922 cI cJ cB) sz q := fun q hq => Or.inr (hsz ▸ hq)
  unfold f_J7_rangeCheck_23922 at h
  refine lv_iload_n hx hb dJ7_rangeCheck_23922_0 rfl (lv_at hl 1 rfl) ?_
  refine lv_iload_n hx hb dJ7_rangeCheck_23922_1 rfl (lv_at hl 2 rfl) ?_
  refine lv_icmp_le (tgt := 46) hx hb dJ7_rangeCheck_23922_2 (by decide) (fun c2 => ?_) (fun c2 => ?_)
  · have h := o_t c2 h
    refine lv_iload_n hx hb dJ7_rangeCheck_23922_46 rfl (lv_at hl 1 rfl) ?_
    refine lv_if_ge (tgt := 59) hx hb dJ7_rangeCheck_23922_47 (by decide) (fun c47 => ?_) (fun c47 => ?_)
    · have h := o_t c47 h
      refine lv_iload_n hx hb dJ7_rangeCheck_23922_59 rfl (lv_at hl 2 rfl) ?_
      refine lv_iload_n hx hb dJ7_rangeCheck_23922_60 rfl (lv_at hl 0 rfl) ?_
      refine lv_icmp_le (tgt := 73) hx hb dJ7_rangeCheck_23922_61 (by decide) (fun c61 => ?_) (fun c61 => ?_)
      · have h := o_t c61 h
        obtain rfl := Option.some.inj h
        exact r_vret F hr hlk dJ7_rangeCheck_23922_73 hsz hP hD hS
      · have h := o_f c61 h
        cases h
    · have h := o_f c47 h
      cases h
  · have h := o_f c2 h
    cases h
section G_X5_kind
abbrev ws_X5_kind (cI cJ cB : ClassId) (a0 a_cells : Nat) (rows : Int32) (cells : Nat → Int32) (cells_n : Nat) : va_W := [(a0, .inr (7, [.ref a_cells, .int rows])), (a_cells, .inl (cI, cells_n, .inl cells))]
abbrev rm_X5_kind : Room := { frames := 0, cells := 0, slots := 0, locals := 0 }
def f_X5_kind_25 (N : Nat) (rows : Int32) (cells : Nat → Int32) (cells_n : Nat) (s0 : Int32) : Option (Int32) := some s0
def f_X5_kind_24 (N : Nat) (rows : Int32) (cells : Nat → Int32) (cells_n : Nat) : Option (Int32) := f_X5_kind_25 N rows cells cells_n 1
def f_X5_kind (N : Nat) (rows : Int32) (cells : Nat → Int32) (cells_n : Nat) (x1 : Int32) : Option (Int32) := ifb (x1 < 0) (f_X5_kind_24 N rows cells cells_n) (ifb (rows ≤ x1) (f_X5_kind_24 N rows cells cells_n) (ix (x1 * 10) cells_n (f_X5_kind_25 N rows cells cells_n (cells (x1 * 10).toNatClampNeg))))
variable {p : Program} {l : Launch} {e : Env} {s : State} {m : MethodId} {below : List Frame} {meth : Method} {c : Code} {args : Array Value} {x0 : Cond} {D : va_G} {cI cJ cB : ClassId} {sz N : Nat} {ws0 : va_W} {a0 a_cells : Nat} {rows : Int32} {cells : Nat → Int32} {cells_n : Nat} {z : Int32}
set_option maxHeartbeats 4000000 in
set_option maxRecDepth 100000 in
theorem w_X5_kind_25 (CX : Cx p m c cX5_kind 2 s args x0 RX5 meth (some .int)) (hK : va_K D vwCl (ty0 cI cJ cB) s) (hsz : s.heap.size = sz) : ∀ (s0 : Int32) (H : Heap) (locs : List Loc) (ls : Array Slot), f_X5_kind_25 N rows cells cells_n s0 = some z → va_P D vwCl (ws_X5_kind cI cJ cB a0 a_cells rows cells cells_n) H → va_D (va_A ws0 sz) (ws_X5_kind cI cJ cB a0 a_cells rows cells cells_n) → va_S (va_A ws0 sz) s.heap H locs → lv_has ls 2 [] → W p l e rm_X5_kind s m args below meth c H locs 0 0 (MQ below (gQ D sz ws0 (ws_X5_kind cI cJ cB a0 a_cells rows cells cells_n) (some (.int z))) args s 0 0 (va_A ws0 sz)) (F0 m 25 ls [.int s0]) := by
  obtain ⟨F, hr, hlk, hNw⟩ := id CX
  have hx := F.1
  have hb := F.2.1
  have hown := F.2.2.2.1
  have hA : ∀ q, s.heap.size ≤ q → va_A ws0 sz q := fun q hq => Or.inr (hsz ▸ hq)
  intro s0 H locs ls h hP hD hS hl
  unfold f_X5_kind_25 at h
  obtain rfl := Option.some.inj h
  exact r_ret (v := s0) F hr hlk rfl dX5_kind_25 hsz hP hD hS
set_option maxHeartbeats 4000000 in
set_option maxRecDepth 100000 in
theorem w_X5_kind_24 (CX : Cx p m c cX5_kind 2 s args x0 RX5 meth (some .int)) (hK : va_K D vwCl (ty0 cI cJ cB) s) (hsz : s.heap.size = sz) : ∀ (H : Heap) (locs : List Loc) (ls : Array Slot), f_X5_kind_24 N rows cells cells_n = some z → va_P D vwCl (ws_X5_kind cI cJ cB a0 a_cells rows cells cells_n) H → va_D (va_A ws0 sz) (ws_X5_kind cI cJ cB a0 a_cells rows cells cells_n) → va_S (va_A ws0 sz) s.heap H locs → lv_has ls 2 [] → W p l e rm_X5_kind s m args below meth c H locs 0 0 (MQ below (gQ D sz ws0 (ws_X5_kind cI cJ cB a0 a_cells rows cells cells_n) (some (.int z))) args s 0 0 (va_A ws0 sz)) (F0 m 24 ls []) := by
  obtain ⟨F, hr, hlk, hNw⟩ := id CX
  have hx := F.1
  have hb := F.2.1
  have hown := F.2.2.2.1
  have hA : ∀ q, s.heap.size ≤ q → va_A ws0 sz q := fun q hq => Or.inr (hsz ▸ hq)
  intro  H locs ls h hP hD hS hl
  unfold f_X5_kind_24 at h
  refine lv_iconst (v := 1) hx hb dX5_kind_24 (by decide) ?_
  exact w_X5_kind_25 CX hK hsz 1 _ _ _ h hP hD hS (lv_sub hl [] rfl)
end G_X5_kind
set_option maxHeartbeats 4000000 in
set_option maxRecDepth 100000 in
theorem c_X5_kind (l : Launch) (D : va_G) (cI cJ cB : ClassId) (a0 a_cells : Nat) (sz : Nat) (rows : Int32) (cells : Nat → Int32) (cells_n : Nat) (x1 : Int32) (N : Nat) {z : Int32} (h : f_X5_kind N rows cells cells_n x1 = some z) : Mg l yX5_kind cX5_kind 2 (some .int) rm_X5_kind D (ty0 cI cJ cB) [.ref a0, .int x1] sz (ws_X5_kind cI cJ cB a0 a_cells rows cells cells_n) (some (.int z)) (ws_X5_kind cI cJ cB a0 a_cells rows cells cells_n) := by
  refine Mg.of (by decide) (Nat.le_of_ble_eq_true rfl) ?_
  intro p e s m below meth c CX hK hsz hP hD ls hl
  have CX : Cx p m c cX5_kind 2 s ([.ref a0, .int x1] : List Value).toArray (Cond.code yX5_kind cX5_kind 2 (some .int)) RX5 meth (some .int) := CX
  obtain ⟨F, hr, hlk, hNw⟩ := id CX
  have hx := F.1
  have hb := F.2.1
  have hown := F.2.2.2.1
  have hl : lv_has ls 2 [(0, .ref a0), (1, .int x1)] := hl
  have hS : va_S (va_A (ws_X5_kind cI cJ cB a0 a_cells rows cells cells_n) sz) s.heap s.heap [] := va_S.rf
  have hA : ∀ q, s.heap.size ≤ q → va_A (ws_X5_kind cI cJ cB a0 a_cells rows cells cells_n) sz q := fun q hq => Or.inr (hsz ▸ hq)
  unfold f_X5_kind at h
  refine lv_iload_n hx hb dX5_kind_0 rfl (lv_at hl 1 rfl) ?_
  refine lv_if_lt (tgt := 24) hx hb dX5_kind_1 (by decide) (fun c1 => ?_) (fun c1 => ?_)
  · have h := o_t c1 h
    exact w_X5_kind_24 CX hK hsz  _ _ _ h hP hD hS (lv_sub hl [] rfl)
  · have h := o_f c1 h
    refine lv_iload_n hx hb dX5_kind_4 rfl (lv_at hl 1 rfl) ?_
    refine lv_aload_n hx hb dX5_kind_5 rfl (lv_at hl 0 rfl) ?_
    refine r_get F hK hP 0 1 rfl inW_X5 wm_126 rfl (by decide) rfl dX5_kind_6 ?_
    refine lv_icmp_ge (tgt := 24) hx hb dX5_kind_9 (by decide) (fun c9 => ?_) (fun c9 => ?_)
    · have h := o_t c9 h
      exact w_X5_kind_24 CX hK hsz  _ _ _ h hP hD hS (lv_sub hl [] rfl)
    · have h := o_f c9 h
      refine lv_aload_n hx hb dX5_kind_12 rfl (lv_at hl 0 rfl) ?_
      refine r_get F hK hP 0 0 rfl inW_X5 wm_125 rfl (by decide) rfl dX5_kind_13 ?_
      refine lv_iload_n hx hb dX5_kind_16 rfl (lv_at hl 1 rfl) ?_
      refine lv_bipush (v := 10) hx hb dX5_kind_17 (by decide) ?_
      refine lv_imul hx hb dX5_kind_19 ?_
      obtain ⟨hi20, h⟩ := o_ix h
      refine va_iald hx hb hK hP 1 0 rfl rfl hi20 dX5_kind_20 ?_
      refine lv_goto (tgt := 25) hx hb dX5_kind_21 (by decide) ?_
      exact w_X5_kind_25 CX hK hsz (cells (x1 * 10).toNatClampNeg) _ _ _ h hP hD hS (lv_sub hl [] rfl)
section G_X5_number
abbrev ws_X5_number (cI cJ cB : ClassId) (a0 a_cells : Nat) (rows : Int32) (cells : Nat → Int32) (cells_n : Nat) : va_W := [(a0, .inr (7, [.ref a_cells, .int rows])), (a_cells, .inl (cI, cells_n, .inl cells))]
abbrev rm_X5_number : Room := { frames := 0, cells := 0, slots := 0, locals := 0 }
def f_X5_number_39 (N : Nat) (rows : Int32) (cells : Nat → Int32) (cells_n : Nat) (s0 : Int32) : Option (Int32) := some s0
def f_X5_number_38 (N : Nat) (rows : Int32) (cells : Nat → Int32) (cells_n : Nat) : Option (Int32) := f_X5_number_39 N rows cells cells_n 0
def f_X5_number (N : Nat) (rows : Int32) (cells : Nat → Int32) (cells_n : Nat) (x1 : Int32) (x2 : Int32) : Option (Int32) := ifb (x1 < 0) (f_X5_number_38 N rows cells cells_n) (ifb (rows ≤ x1) (f_X5_number_38 N rows cells cells_n) (ifb (x2 < 0) (f_X5_number_38 N rows cells cells_n) (ifb (9 ≤ x2) (f_X5_number_38 N rows cells cells_n) (ix (((x1 * 10) + 1) + x2) cells_n (f_X5_number_39 N rows cells cells_n (cells (((x1 * 10) + 1) + x2).toNatClampNeg))))))
variable {p : Program} {l : Launch} {e : Env} {s : State} {m : MethodId} {below : List Frame} {meth : Method} {c : Code} {args : Array Value} {x0 : Cond} {D : va_G} {cI cJ cB : ClassId} {sz N : Nat} {ws0 : va_W} {a0 a_cells : Nat} {rows : Int32} {cells : Nat → Int32} {cells_n : Nat} {z : Int32}
set_option maxHeartbeats 4000000 in
set_option maxRecDepth 100000 in
theorem w_X5_number_39 (CX : Cx p m c cX5_number 3 s args x0 RX5 meth (some .int)) (hK : va_K D vwCl (ty0 cI cJ cB) s) (hsz : s.heap.size = sz) : ∀ (s0 : Int32) (H : Heap) (locs : List Loc) (ls : Array Slot), f_X5_number_39 N rows cells cells_n s0 = some z → va_P D vwCl (ws_X5_number cI cJ cB a0 a_cells rows cells cells_n) H → va_D (va_A ws0 sz) (ws_X5_number cI cJ cB a0 a_cells rows cells cells_n) → va_S (va_A ws0 sz) s.heap H locs → lv_has ls 3 [] → W p l e rm_X5_number s m args below meth c H locs 0 0 (MQ below (gQ D sz ws0 (ws_X5_number cI cJ cB a0 a_cells rows cells cells_n) (some (.int z))) args s 0 0 (va_A ws0 sz)) (F0 m 39 ls [.int s0]) := by
  obtain ⟨F, hr, hlk, hNw⟩ := id CX
  have hx := F.1
  have hb := F.2.1
  have hown := F.2.2.2.1
  have hA : ∀ q, s.heap.size ≤ q → va_A ws0 sz q := fun q hq => Or.inr (hsz ▸ hq)
  intro s0 H locs ls h hP hD hS hl
  unfold f_X5_number_39 at h
  obtain rfl := Option.some.inj h
  exact r_ret (v := s0) F hr hlk rfl dX5_number_39 hsz hP hD hS
set_option maxHeartbeats 4000000 in
set_option maxRecDepth 100000 in
theorem w_X5_number_38 (CX : Cx p m c cX5_number 3 s args x0 RX5 meth (some .int)) (hK : va_K D vwCl (ty0 cI cJ cB) s) (hsz : s.heap.size = sz) : ∀ (H : Heap) (locs : List Loc) (ls : Array Slot), f_X5_number_38 N rows cells cells_n = some z → va_P D vwCl (ws_X5_number cI cJ cB a0 a_cells rows cells cells_n) H → va_D (va_A ws0 sz) (ws_X5_number cI cJ cB a0 a_cells rows cells cells_n) → va_S (va_A ws0 sz) s.heap H locs → lv_has ls 3 [] → W p l e rm_X5_number s m args below meth c H locs 0 0 (MQ below (gQ D sz ws0 (ws_X5_number cI cJ cB a0 a_cells rows cells cells_n) (some (.int z))) args s 0 0 (va_A ws0 sz)) (F0 m 38 ls []) := by
  obtain ⟨F, hr, hlk, hNw⟩ := id CX
  have hx := F.1
  have hb := F.2.1
  have hown := F.2.2.2.1
  have hA : ∀ q, s.heap.size ≤ q → va_A ws0 sz q := fun q hq => Or.inr (hsz ▸ hq)
  intro  H locs ls h hP hD hS hl
  unfold f_X5_number_38 at h
  refine lv_iconst (v := 0) hx hb dX5_number_38 (by decide) ?_
  exact w_X5_number_39 CX hK hsz 0 _ _ _ h hP hD hS (lv_sub hl [] rfl)
end G_X5_number
set_option maxHeartbeats 4000000 in
set_option maxRecDepth 100000 in
theorem c_X5_number (l : Launch) (D : va_G) (cI cJ cB : ClassId) (a0 a_cells : Nat) (sz : Nat) (rows : Int32) (cells : Nat → Int32) (cells_n : Nat) (x1 : Int32) (x2 : Int32) (N : Nat) {z : Int32} (h : f_X5_number N rows cells cells_n x1 x2 = some z) : Mg l yX5_number cX5_number 3 (some .int) rm_X5_number D (ty0 cI cJ cB) [.ref a0, .int x1, .int x2] sz (ws_X5_number cI cJ cB a0 a_cells rows cells cells_n) (some (.int z)) (ws_X5_number cI cJ cB a0 a_cells rows cells cells_n) := by
  refine Mg.of (by decide) (Nat.le_of_ble_eq_true rfl) ?_
  intro p e s m below meth c CX hK hsz hP hD ls hl
  have CX : Cx p m c cX5_number 3 s ([.ref a0, .int x1, .int x2] : List Value).toArray (Cond.code yX5_number cX5_number 3 (some .int)) RX5 meth (some .int) := CX
  obtain ⟨F, hr, hlk, hNw⟩ := id CX
  have hx := F.1
  have hb := F.2.1
  have hown := F.2.2.2.1
  have hl : lv_has ls 3 [(0, .ref a0), (1, .int x1), (2, .int x2)] := hl
  have hS : va_S (va_A (ws_X5_number cI cJ cB a0 a_cells rows cells cells_n) sz) s.heap s.heap [] := va_S.rf
  have hA : ∀ q, s.heap.size ≤ q → va_A (ws_X5_number cI cJ cB a0 a_cells rows cells cells_n) sz q := fun q hq => Or.inr (hsz ▸ hq)
  unfold f_X5_number at h
  refine lv_iload_n hx hb dX5_number_0 rfl (lv_at hl 1 rfl) ?_
  refine lv_if_lt (tgt := 38) hx hb dX5_number_1 (by decide) (fun c1 => ?_) (fun c1 => ?_)
  · have h := o_t c1 h
    exact w_X5_number_38 CX hK hsz  _ _ _ h hP hD hS (lv_sub hl [] rfl)
  · have h := o_f c1 h
    refine lv_iload_n hx hb dX5_number_4 rfl (lv_at hl 1 rfl) ?_
    refine lv_aload_n hx hb dX5_number_5 rfl (lv_at hl 0 rfl) ?_
    refine r_get F hK hP 0 1 rfl inW_X5 wm_126 rfl (by decide) rfl dX5_number_6 ?_
    refine lv_icmp_ge (tgt := 38) hx hb dX5_number_9 (by decide) (fun c9 => ?_) (fun c9 => ?_)
    · have h := o_t c9 h
      exact w_X5_number_38 CX hK hsz  _ _ _ h hP hD hS (lv_sub hl [] rfl)
    · have h := o_f c9 h
      refine lv_iload_n hx hb dX5_number_12 rfl (lv_at hl 2 rfl) ?_
      refine lv_if_lt (tgt := 38) hx hb dX5_number_13 (by decide) (fun c13 => ?_) (fun c13 => ?_)
      · have h := o_t c13 h
        exact w_X5_number_38 CX hK hsz  _ _ _ h hP hD hS (lv_sub hl [] rfl)
      · have h := o_f c13 h
        refine lv_iload_n hx hb dX5_number_16 rfl (lv_at hl 2 rfl) ?_
        refine lv_bipush (v := 9) hx hb dX5_number_17 (by decide) ?_
        refine lv_icmp_ge (tgt := 38) hx hb dX5_number_19 (by decide) (fun c19 => ?_) (fun c19 => ?_)
        · have h := o_t c19 h
          exact w_X5_number_38 CX hK hsz  _ _ _ h hP hD hS (lv_sub hl [] rfl)
        · have h := o_f c19 h
          refine lv_aload_n hx hb dX5_number_22 rfl (lv_at hl 0 rfl) ?_
          refine r_get F hK hP 0 0 rfl inW_X5 wm_125 rfl (by decide) rfl dX5_number_23 ?_
          refine lv_iload_n hx hb dX5_number_26 rfl (lv_at hl 1 rfl) ?_
          refine lv_bipush (v := 10) hx hb dX5_number_27 (by decide) ?_
          refine lv_imul hx hb dX5_number_29 ?_
          refine lv_iconst (v := 1) hx hb dX5_number_30 (by decide) ?_
          refine lv_iadd hx hb dX5_number_31 ?_
          refine lv_iload_n hx hb dX5_number_32 rfl (lv_at hl 2 rfl) ?_
          refine lv_iadd hx hb dX5_number_33 ?_
          obtain ⟨hi34, h⟩ := o_ix h
          refine va_iald hx hb hK hP 1 0 rfl rfl hi34 dX5_number_34 ?_
          refine lv_goto (tgt := 39) hx hb dX5_number_35 (by decide) ?_
          exact w_X5_number_39 CX hK hsz (cells (((x1 * 10) + 1) + x2).toNatClampNeg) _ _ _ h hP hD hS (lv_sub hl [] rfl)
section G_X5_setNumber
abbrev ws_X5_setNumber (cI cJ cB : ClassId) (a0 a_cells : Nat) (rows : Int32) (cells : Nat → Int32) (cells_n : Nat) : va_W := [(a0, .inr (7, [.ref a_cells, .int rows])), (a_cells, .inl (cI, cells_n, .inl cells))]
abbrev rm_X5_setNumber : Room := { frames := 0, cells := 0, slots := 0, locals := 0 }
def f_X5_setNumber_36 (N : Nat) (rows : Int32) (cells : Nat → Int32) (cells_n : Nat) : Option ((Nat → Int32)) := some cells
def f_X5_setNumber (N : Nat) (rows : Int32) (cells : Nat → Int32) (cells_n : Nat) (x1 : Int32) (x2 : Int32) (x3 : Int32) : Option ((Nat → Int32)) := ifb (x1 < 0) (f_X5_setNumber_36 N rows cells cells_n) (ifb (rows ≤ x1) (f_X5_setNumber_36 N rows cells cells_n) (ifb (x2 < 0) (f_X5_setNumber_36 N rows cells cells_n) (ifb (9 ≤ x2) (f_X5_setNumber_36 N rows cells cells_n) (ix (((x1 * 10) + 1) + x2) cells_n (f_X5_setNumber_36 N rows (upd cells (((x1 * 10) + 1) + x2).toNatClampNeg x3) cells_n)))))
variable {p : Program} {l : Launch} {e : Env} {s : State} {m : MethodId} {below : List Frame} {meth : Method} {c : Code} {args : Array Value} {x0 : Cond} {D : va_G} {cI cJ cB : ClassId} {sz N : Nat} {ws0 : va_W} {a0 a_cells : Nat} {rows : Int32} {cells_n : Nat} {z : (Nat → Int32)}
set_option maxHeartbeats 4000000 in
set_option maxRecDepth 100000 in
theorem w_X5_setNumber_36 (CX : Cx p m c cX5_setNumber 4 s args x0 RX5 meth none) (hK : va_K D vwCl (ty0 cI cJ cB) s) (hsz : s.heap.size = sz) : ∀ (cells : Nat → Int32) (H : Heap) (locs : List Loc) (ls : Array Slot), f_X5_setNumber_36 N rows cells cells_n = some z → va_P D vwCl (ws_X5_setNumber cI cJ cB a0 a_cells rows cells cells_n) H → va_D (va_A ws0 sz) (ws_X5_setNumber cI cJ cB a0 a_cells rows cells cells_n) → va_S (va_A ws0 sz) s.heap H locs → lv_has ls 4 [] → W p l e rm_X5_setNumber s m args below meth c H locs 0 0 (MQ below (gQ D sz ws0 (ws_X5_setNumber cI cJ cB a0 a_cells rows z cells_n) none) args s 0 0 (va_A ws0 sz)) (F0 m 36 ls []) := by
  obtain ⟨F, hr, hlk, hNw⟩ := id CX
  have hx := F.1
  have hb := F.2.1
  have hown := F.2.2.2.1
  have hA : ∀ q, s.heap.size ≤ q → va_A ws0 sz q := fun q hq => Or.inr (hsz ▸ hq)
  intro cells H locs ls h hP hD hS hl
  unfold f_X5_setNumber_36 at h
  obtain rfl := Option.some.inj h
  exact r_vret F hr hlk dX5_setNumber_36 hsz hP hD hS
end G_X5_setNumber
set_option maxHeartbeats 4000000 in
set_option maxRecDepth 100000 in
theorem c_X5_setNumber (l : Launch) (D : va_G) (cI cJ cB : ClassId) (a0 a_cells : Nat) (sz : Nat) (rows : Int32) (cells : Nat → Int32) (cells_n : Nat) (x1 : Int32) (x2 : Int32) (x3 : Int32) (N : Nat) {z : (Nat → Int32)} (h : f_X5_setNumber N rows cells cells_n x1 x2 x3 = some z) : Mg l yX5_setNumber cX5_setNumber 4 none rm_X5_setNumber D (ty0 cI cJ cB) [.ref a0, .int x1, .int x2, .int x3] sz (ws_X5_setNumber cI cJ cB a0 a_cells rows cells cells_n) none (ws_X5_setNumber cI cJ cB a0 a_cells rows z cells_n) := by
  refine Mg.of (by decide) (Nat.le_of_ble_eq_true rfl) ?_
  intro p e s m below meth c CX hK hsz hP hD ls hl
  have CX : Cx p m c cX5_setNumber 4 s ([.ref a0, .int x1, .int x2, .int x3] : List Value).toArray (Cond.code yX5_setNumber cX5_setNumber 4 none) RX5 meth none := CX
  obtain ⟨F, hr, hlk, hNw⟩ := id CX
  have hx := F.1
  have hb := F.2.1
  have hown := F.2.2.2.1
  have hl : lv_has ls 4 [(0, .ref a0), (1, .int x1), (2, .int x2), (3, .int x3)] := hl
  have hS : va_S (va_A (ws_X5_setNumber cI cJ cB a0 a_cells rows cells cells_n) sz) s.heap s.heap [] := va_S.rf
  have hA : ∀ q, s.heap.size ≤ q → va_A (ws_X5_setNumber cI cJ cB a0 a_cells rows cells cells_n) sz q := fun q hq => Or.inr (hsz ▸ hq)
  unfold f_X5_setNumber at h
  refine lv_iload_n hx hb dX5_setNumber_0 rfl (lv_at hl 1 rfl) ?_
  refine lv_if_lt (tgt := 36) hx hb dX5_setNumber_1 (by decide) (fun c1 => ?_) (fun c1 => ?_)
  · have h := o_t c1 h
    exact w_X5_setNumber_36 CX hK hsz cells _ _ _ h hP hD hS (lv_sub hl [] rfl)
  · have h := o_f c1 h
    refine lv_iload_n hx hb dX5_setNumber_4 rfl (lv_at hl 1 rfl) ?_
    refine lv_aload_n hx hb dX5_setNumber_5 rfl (lv_at hl 0 rfl) ?_
    refine r_get F hK hP 0 1 rfl inW_X5 wm_126 rfl (by decide) rfl dX5_setNumber_6 ?_
    refine lv_icmp_ge (tgt := 36) hx hb dX5_setNumber_9 (by decide) (fun c9 => ?_) (fun c9 => ?_)
    · have h := o_t c9 h
      exact w_X5_setNumber_36 CX hK hsz cells _ _ _ h hP hD hS (lv_sub hl [] rfl)
    · have h := o_f c9 h
      refine lv_iload_n hx hb dX5_setNumber_12 rfl (lv_at hl 2 rfl) ?_
      refine lv_if_lt (tgt := 36) hx hb dX5_setNumber_13 (by decide) (fun c13 => ?_) (fun c13 => ?_)
      · have h := o_t c13 h
        exact w_X5_setNumber_36 CX hK hsz cells _ _ _ h hP hD hS (lv_sub hl [] rfl)
      · have h := o_f c13 h
        refine lv_iload_n hx hb dX5_setNumber_16 rfl (lv_at hl 2 rfl) ?_
        refine lv_bipush (v := 9) hx hb dX5_setNumber_17 (by decide) ?_
        refine lv_icmp_ge (tgt := 36) hx hb dX5_setNumber_19 (by decide) (fun c19 => ?_) (fun c19 => ?_)
        · have h := o_t c19 h
          exact w_X5_setNumber_36 CX hK hsz cells _ _ _ h hP hD hS (lv_sub hl [] rfl)
        · have h := o_f c19 h
          refine lv_aload_n hx hb dX5_setNumber_22 rfl (lv_at hl 0 rfl) ?_
          refine r_get F hK hP 0 0 rfl inW_X5 wm_125 rfl (by decide) rfl dX5_setNumber_23 ?_
          refine lv_iload_n hx hb dX5_setNumber_26 rfl (lv_at hl 1 rfl) ?_
          refine lv_bipush (v := 10) hx hb dX5_setNumber_27 (by decide) ?_
          refine lv_imul hx hb dX5_setNumber_29 ?_
          refine lv_iconst (v := 1) hx hb dX5_setNumber_30 (by decide) ?_
          refine lv_iadd hx hb dX5_setNumber_31 ?_
          refine lv_iload_n hx hb dX5_setNumber_32 rfl (lv_at hl 2 rfl) ?_
          refine lv_iadd hx hb dX5_setNumber_33 ?_
          refine lv_iload_n hx hb dX5_setNumber_34 rfl (lv_at hl 3 rfl) ?_
          obtain ⟨hi35, h⟩ := o_ix h
          refine r_iast (wn := (ws_X5_setNumber cI cJ cB a0 a_cells rows (upd cells (((x1 * 10) + 1) + x2).toNatClampNeg x3) cells_n)) F hK hP hD hS 1 0 hi35 rfl rfl rfl dX5_setNumber_35 (fun H locs hP hD hS => ?_)
          exact w_X5_setNumber_36 CX hK hsz (upd cells (((x1 * 10) + 1) + x2).toNatClampNeg x3) _ _ _ h hP hD hS (lv_sub hl [] rfl)

section G_X5_append
abbrev ws_X5_append (cI cJ cB : ClassId) (a0 a_cells a_p1 a_p1_cells : Nat) (rows : Int32) (cells : Nat → Int32) (cells_n : Nat) (p1_rows : Int32) (p1_cells : Nat → Int32) (p1_cells_n : Nat) : va_W := [(a0, .inr (7, [.ref a_cells, .int rows])), (a_cells, .inl (cI, cells_n, .inl cells)), (a_p1, .inr (7, [.ref a_p1_cells, .int p1_rows])), (a_p1_cells, .inl (cI, p1_cells_n, .inl p1_cells))]
abbrev rm_X5_append : Room := { frames := 1, cells := 0, slots := 0, locals := 40 }
def f_X5_append_78 (N : Nat) (rows : Int32) (cells : Nat → Int32) (cells_n : Nat) (p1_rows : Int32) (p1_cells : Nat → Int32) (p1_cells_n : Nat) : Option ((Int32) × (Nat → Int32)) := some (rows, cells)
def f_X5_append (N : Nat) (rows : Int32) (cells : Nat → Int32) (cells_n : Nat) (p1_rows : Int32) (p1_cells : Nat → Int32) (p1_cells_n : Nat) (x2 : Int32) (x3 : Int32) : Option ((Int32) × (Nat → Int32)) := ifb (x2 < 0) (f_X5_append_78 N rows cells cells_n p1_rows p1_cells p1_cells_n) (ifb ((x3 - x2) < 0) (f_X5_append_78 N rows cells cells_n p1_rows p1_cells p1_cells_n) (ifb (p1_rows < x3) (f_X5_append_78 N rows cells cells_n p1_rows p1_cells p1_cells_n) (ifb ((Int32.ofNat cells_n) < ((rows + (x3 - x2)) * 10)) (f_X5_append_78 N rows cells cells_n p1_rows p1_cells p1_cells_n) (ckp (((¬ (x2 * 10) < 0 ∧ ¬ (rows * 10) < 0) ∧ ¬ ((x3 - x2) * 10) < 0) ∧ ((x2 * 10).toNatClampNeg + ((x3 - x2) * 10).toNatClampNeg ≤ p1_cells_n ∧ (rows * 10).toNatClampNeg + ((x3 - x2) * 10).toNatClampNeg ≤ cells_n)) (f_X5_append_78 N (rows + (x3 - x2)) (va_cpy p1_cells cells (x2 * 10).toNatClampNeg (rows * 10).toNatClampNeg ((x3 - x2) * 10).toNatClampNeg) cells_n p1_rows p1_cells p1_cells_n)))))
variable {p : Program} {l : Launch} {e : Env} {s : State} {m : MethodId} {below : List Frame} {meth : Method} {c : Code} {args : Array Value} {x0 : Cond} {D : va_G} {cI cJ cB : ClassId} {sz N : Nat} {ws0 : va_W} {a0 a_cells a_p1 a_p1_cells : Nat} {cells_n : Nat} {p1_rows : Int32} {p1_cells : Nat → Int32} {p1_cells_n : Nat} {z : (Int32) × (Nat → Int32)}
set_option maxHeartbeats 4000000 in
set_option maxRecDepth 100000 in
theorem w_X5_append_78 (CX : Cx p m c cX5_append 5 s args x0 RX5 meth none) (hK : va_K D vwCl (ty0 cI cJ cB) s) (hsz : s.heap.size = sz) : ∀ (rows : Int32) (cells : Nat → Int32) (H : Heap) (locs : List Loc) (ls : Array Slot), f_X5_append_78 N rows cells cells_n p1_rows p1_cells p1_cells_n = some z → va_P D vwCl (ws_X5_append cI cJ cB a0 a_cells a_p1 a_p1_cells rows cells cells_n p1_rows p1_cells p1_cells_n) H → va_D (va_A ws0 sz) (ws_X5_append cI cJ cB a0 a_cells a_p1 a_p1_cells rows cells cells_n p1_rows p1_cells p1_cells_n) → va_S (va_A ws0 sz) s.heap H locs → lv_has ls 5 [] → W p l e rm_X5_append s m args below meth c H locs 0 0 (MQ below (gQ D sz ws0 (ws_X5_append cI cJ cB a0 a_cells a_p1 a_p1_cells z.1 z.2 cells_n p1_rows p1_cells p1_cells_n) none) args s 0 0 (va_A ws0 sz)) (F0 m 78 ls []) := by
  obtain ⟨F, hr, hlk, hNw⟩ := id CX
  have hx := F.1
  have hb := F.2.1
  have hown := F.2.2.2.1
  have hA : ∀ q, s.heap.size ≤ q → va_A ws0 sz q := fun q hq => Or.inr (hsz ▸ hq)
  intro rows cells H locs ls h hP hD hS hl
  unfold f_X5_append_78 at h
  obtain rfl := Option.some.inj h
  exact r_vret F hr hlk dX5_append_78 hsz hP hD hS
end G_X5_append
set_option maxHeartbeats 4000000 in
set_option maxRecDepth 100000 in
theorem c_X5_append (l : Launch) (D : va_G) (cI cJ cB : ClassId) (a0 a_cells a_p1 a_p1_cells : Nat) (sz : Nat) (rows : Int32) (cells : Nat → Int32) (cells_n : Nat) (p1_rows : Int32) (p1_cells : Nat → Int32) (p1_cells_n : Nat) (x2 : Int32) (x3 : Int32) (N : Nat) {z : (Int32) × (Nat → Int32)} (h : f_X5_append N rows cells cells_n p1_rows p1_cells p1_cells_n x2 x3 = some z) : Mg l yX5_append cX5_append 5 none rm_X5_append D (ty0 cI cJ cB) [.ref a0, .ref a_p1, .int x2, .int x3] sz (ws_X5_append cI cJ cB a0 a_cells a_p1 a_p1_cells rows cells cells_n p1_rows p1_cells p1_cells_n) none (ws_X5_append cI cJ cB a0 a_cells a_p1 a_p1_cells z.1 z.2 cells_n p1_rows p1_cells p1_cells_n) := by
  refine Mg.of (by decide) (Nat.le_of_ble_eq_true rfl) ?_
  intro p e s m below meth c CX hK hsz hP hD ls hl
  have CX : Cx p m c cX5_append 5 s ([.ref a0, .ref a_p1, .int x2, .int x3] : List Value).toArray (Cond.code yX5_append cX5_append 5 none) RX5 meth none := CX
  obtain ⟨F, hr, hlk, hNw⟩ := id CX
  have hx := F.1
  have hb := F.2.1
  have hown := F.2.2.2.1
  have hl : lv_has ls 5 [(0, .ref a0), (1, .ref a_p1), (2, .int x2), (3, .int x3)] := hl
  have hS : va_S (va_A (ws_X5_append cI cJ cB a0 a_cells a_p1 a_p1_cells rows cells cells_n p1_rows p1_cells p1_cells_n) sz) s.heap s.heap [] := va_S.rf
  have hA : ∀ q, s.heap.size ≤ q → va_A (ws_X5_append cI cJ cB a0 a_cells a_p1 a_p1_cells rows cells cells_n p1_rows p1_cells p1_cells_n) sz q := fun q hq => Or.inr (hsz ▸ hq)
  unfold f_X5_append at h
  refine lv_iload_n hx hb dX5_append_0 rfl (lv_at hl 3 rfl) ?_
  refine lv_iload_n hx hb dX5_append_1 rfl (lv_at hl 2 rfl) ?_
  refine lv_isub hx hb dX5_append_2 ?_
  refine lv_istore (lv' := [(4, .int (x3 - x2)), (0, .ref a0), (1, .ref a_p1), (2, .int x2), (3, .int x3)]) hx hb dX5_append_3 hl (by decide) rfl (fun ls hl => ?_)
  refine lv_iload_n hx hb dX5_append_5 rfl (lv_at hl 3 rfl) ?_
  refine lv_if_lt (tgt := 78) hx hb dX5_append_6 (by decide) (fun c6 => ?_) (fun c6 => ?_)
  · have h := o_t c6 h
    exact w_X5_append_78 CX hK hsz rows cells _ _ _ h hP hD hS (lv_sub hl [] rfl)
  · have h := o_f c6 h
    refine lv_iload hx hb dX5_append_9 (lv_at hl 0 rfl) ?_
    refine lv_if_lt (tgt := 78) hx hb dX5_append_11 (by decide) (fun c11 => ?_) (fun c11 => ?_)
    · have h := o_t c11 h
      exact w_X5_append_78 CX hK hsz rows cells _ _ _ h hP hD hS (lv_sub hl [] rfl)
    · have h := o_f c11 h
      refine lv_iload_n hx hb dX5_append_14 rfl (lv_at hl 4 rfl) ?_
      refine lv_aload_n hx hb dX5_append_15 rfl (lv_at hl 2 rfl) ?_
      refine r_get F hK hP 2 1 rfl inW_X5 wm_126 rfl (by decide) rfl dX5_append_16 ?_
      refine lv_icmp_gt (tgt := 78) hx hb dX5_append_19 (by decide) (fun c19 => ?_) (fun c19 => ?_)
      · have h := o_t c19 h
        exact w_X5_append_78 CX hK hsz rows cells _ _ _ h hP hD hS (lv_sub hl [] rfl)
      · have h := o_f c19 h
        refine lv_aload_n hx hb dX5_append_22 rfl (lv_at hl 1 rfl) ?_
        refine r_get F hK hP 0 1 rfl inW_X5 wm_126 rfl (by decide) rfl dX5_append_23 ?_
        refine lv_iload hx hb dX5_append_26 (lv_at hl 0 rfl) ?_
        refine lv_iadd hx hb dX5_append_28 ?_
        refine lv_bipush (v := 10) hx hb dX5_append_29 (by decide) ?_
        refine lv_imul hx hb dX5_append_31 ?_
        refine lv_aload_n hx hb dX5_append_32 rfl (lv_at hl 1 rfl) ?_
        refine r_get F hK hP 0 0 rfl inW_X5 wm_125 rfl (by decide) rfl dX5_append_33 ?_
        refine va_alen (v := (Int32.ofNat cells_n)) hx hb hK hP 1 0 rfl rfl rfl dX5_append_36 ?_
        refine lv_icmp_gt (tgt := 78) hx hb dX5_append_37 (by decide) (fun c37 => ?_) (fun c37 => ?_)
        · have h := o_t c37 h
          exact w_X5_append_78 CX hK hsz rows cells _ _ _ h hP hD hS (lv_sub hl [] rfl)
        · have h := o_f c37 h
          refine lv_aload_n hx hb dX5_append_40 rfl (lv_at hl 2 rfl) ?_
          refine r_get F hK hP 2 0 rfl inW_X5 wm_125 rfl (by decide) rfl dX5_append_41 ?_
          refine lv_iload_n hx hb dX5_append_44 rfl (lv_at hl 3 rfl) ?_
          refine lv_bipush (v := 10) hx hb dX5_append_45 (by decide) ?_
          refine lv_imul hx hb dX5_append_47 ?_
          refine lv_aload_n hx hb dX5_append_48 rfl (lv_at hl 1 rfl) ?_
          refine r_get F hK hP 0 0 rfl inW_X5 wm_125 rfl (by decide) rfl dX5_append_49 ?_
          refine lv_aload_n hx hb dX5_append_52 rfl (lv_at hl 1 rfl) ?_
          refine r_get F hK hP 0 1 rfl inW_X5 wm_126 rfl (by decide) rfl dX5_append_53 ?_
          refine lv_bipush (v := 10) hx hb dX5_append_56 (by decide) ?_
          refine lv_imul hx hb dX5_append_58 ?_
          refine lv_iload hx hb dX5_append_59 (lv_at hl 0 rfl) ?_
          refine lv_bipush (v := 10) hx hb dX5_append_61 (by decide) ?_
          refine lv_imul hx hb dX5_append_63 ?_
          obtain ⟨hc64, h⟩ := o_c h
          refine va_copyi hx hb (F.2.2.1.trans hl.1.symm) hown (F.2.2.2.2 _ (q_in wm_776)) (F.2.2.2.2 _ (q_in wm_395)) (F.2.2.2.2 _ (q_in wm_394)) (F.2.2.2.2 _ (q_in wm_89)) hK hP hD hS 3 1 0 0 rfl rfl rfl rfl rfl hc64.1.1.1 hc64.1.1.2 hc64.1.2 hc64.2.1 hc64.2.2 (fun _ _ => rfl) (Nat.le_of_ble_eq_true rfl) (Nat.le_of_ble_eq_true rfl) dX5_append_64 (fun H locs hP hD hS => ?_)
          have hP : va_P D vwCl (ws_X5_append cI cJ cB a0 a_cells a_p1 a_p1_cells rows (va_cpy p1_cells cells (x2 * 10).toNatClampNeg (rows * 10).toNatClampNeg ((x3 - x2) * 10).toNatClampNeg) cells_n p1_rows p1_cells p1_cells_n) H := hP
          have hD : va_D _ (ws_X5_append cI cJ cB a0 a_cells a_p1 a_p1_cells rows (va_cpy p1_cells cells (x2 * 10).toNatClampNeg (rows * 10).toNatClampNeg ((x3 - x2) * 10).toNatClampNeg) cells_n p1_rows p1_cells p1_cells_n) := hD
          refine lv_aload_n hx hb dX5_append_67 rfl (lv_at hl 1 rfl) ?_
          refine lv_dup hx hb dX5_append_68 rfl ?_
          refine r_get F hK hP 0 1 rfl inW_X5 wm_126 rfl (by decide) rfl dX5_append_69 ?_
          refine lv_iload hx hb dX5_append_72 (lv_at hl 0 rfl) ?_
          refine lv_iadd hx hb dX5_append_74 ?_
          refine r_put (wn := (ws_X5_append cI cJ cB a0 a_cells a_p1 a_p1_cells (rows + (x3 - x2)) (va_cpy p1_cells cells (x2 * 10).toNatClampNeg (rows * 10).toNatClampNeg ((x3 - x2) * 10).toNatClampNeg) cells_n p1_rows p1_cells p1_cells_n)) F hK hP hD hS 0 1 rfl inW_X5 wm_126 tyX5_ok nmX5 rfl rfl (by decide) rfl rfl (Nat.le_of_ble_eq_true rfl) rfl dX5_append_75 (fun H locs hP hD hS => ?_)
          exact w_X5_append_78 CX hK hsz (rows + (x3 - x2)) (va_cpy p1_cells cells (x2 * 10).toNatClampNeg (rows * 10).toNatClampNeg ((x3 - x2) * 10).toNatClampNeg) _ _ _ h hP hD hS (lv_sub hl [] rfl)
section G_X5_become
abbrev ws_X5_become (cI cJ cB : ClassId) (a0 a_cells a_p1 a_p1_cells : Nat) (rows : Int32) (cells : Nat → Int32) (cells_n : Nat) (p1_rows : Int32) (p1_cells : Nat → Int32) (p1_cells_n : Nat) : va_W := [(a0, .inr (7, [.ref a_cells, .int rows])), (a_cells, .inl (cI, cells_n, .inl cells)), (a_p1, .inr (7, [.ref a_p1_cells, .int p1_rows])), (a_p1_cells, .inl (cI, p1_cells_n, .inl p1_cells))]
abbrev rm_X5_become : Room := { frames := 2, cells := 0, slots := 0, locals := 64 }
def f_X5_become (N : Nat) (rows : Int32) (cells : Nat → Int32) (cells_n : Nat) (p1_rows : Int32) (p1_cells : Nat → Int32) (p1_cells_n : Nat) (x2 : Int32) (x3 : Int32) : Option ((Int32) × (Nat → Int32)) := (f_X5_append N 0 cells cells_n p1_rows p1_cells p1_cells_n x2 x3).bind (fun z9 => some (z9.1, z9.2))
variable {p : Program} {l : Launch} {e : Env} {s : State} {m : MethodId} {below : List Frame} {meth : Method} {c : Code} {args : Array Value} {x0 : Cond} {D : va_G} {cI cJ cB : ClassId} {sz N : Nat} {ws0 : va_W} {a0 a_cells a_p1 a_p1_cells : Nat} {cells_n : Nat} {p1_rows : Int32} {p1_cells : Nat → Int32} {p1_cells_n : Nat} {z : (Int32) × (Nat → Int32)}
end G_X5_become
set_option maxHeartbeats 4000000 in
set_option maxRecDepth 100000 in
theorem c_X5_become (l : Launch) (D : va_G) (cI cJ cB : ClassId) (a0 a_cells a_p1 a_p1_cells : Nat) (sz : Nat) (rows : Int32) (cells : Nat → Int32) (cells_n : Nat) (p1_rows : Int32) (p1_cells : Nat → Int32) (p1_cells_n : Nat) (x2 : Int32) (x3 : Int32) (N : Nat) {z : (Int32) × (Nat → Int32)} (h : f_X5_become N rows cells cells_n p1_rows p1_cells p1_cells_n x2 x3 = some z) : Mg l yX5_become cX5_become 4 none rm_X5_become D (ty0 cI cJ cB) [.ref a0, .ref a_p1, .int x2, .int x3] sz (ws_X5_become cI cJ cB a0 a_cells a_p1 a_p1_cells rows cells cells_n p1_rows p1_cells p1_cells_n) none (ws_X5_become cI cJ cB a0 a_cells a_p1 a_p1_cells z.1 z.2 cells_n p1_rows p1_cells p1_cells_n) := by
  refine Mg.of (by decide) (Nat.le_of_ble_eq_true rfl) ?_
  intro p e s m below meth c CX hK hsz hP hD ls hl
  have CX : Cx p m c cX5_become 4 s ([.ref a0, .ref a_p1, .int x2, .int x3] : List Value).toArray (Cond.code yX5_become cX5_become 4 none) RX5 meth none := CX
  obtain ⟨F, hr, hlk, hNw⟩ := id CX
  have hx := F.1
  have hb := F.2.1
  have hown := F.2.2.2.1
  have hl : lv_has ls 4 [(0, .ref a0), (1, .ref a_p1), (2, .int x2), (3, .int x3)] := hl
  have hS : va_S (va_A (ws_X5_become cI cJ cB a0 a_cells a_p1 a_p1_cells rows cells cells_n p1_rows p1_cells p1_cells_n) sz) s.heap s.heap [] := va_S.rf
  have hA : ∀ q, s.heap.size ≤ q → va_A (ws_X5_become cI cJ cB a0 a_cells a_p1 a_p1_cells rows cells cells_n p1_rows p1_cells p1_cells_n) sz q := fun q hq => Or.inr (hsz ▸ hq)
  unfold f_X5_become at h
  refine lv_aload_n hx hb dX5_become_0 rfl (lv_at hl 0 rfl) ?_
  refine lv_iconst (v := 0) hx hb dX5_become_1 (by decide) ?_
  refine r_put (wn := (ws_X5_become cI cJ cB a0 a_cells a_p1 a_p1_cells 0 cells cells_n p1_rows p1_cells p1_cells_n)) F hK hP hD hS 0 1 rfl inW_X5 wm_126 tyX5_ok nmX5 rfl rfl (by decide) rfl rfl (Nat.le_of_ble_eq_true rfl) rfl dX5_become_2 (fun H locs hP hD hS => ?_)
  refine lv_aload_n hx hb dX5_become_5 rfl (lv_at hl 0 rfl) ?_
  refine lv_aload_n hx hb dX5_become_6 rfl (lv_at hl 1 rfl) ?_
  refine lv_iload_n hx hb dX5_become_7 rfl (lv_at hl 2 rfl) ?_
  refine lv_iload_n hx hb dX5_become_8 rfl (lv_at hl 3 rfl) ?_
  obtain ⟨z9, hz9, h⟩ := o_b h
  refine k_v (wn := (ws_X5_become cI cJ cB a0 a_cells a_p1 a_p1_cells z9.1 z9.2 cells_n p1_rows p1_cells p1_cells_n)) (As := [.ref a_p1, .int x2, .int x3]) (rest := []) F hNw hK hP hD hS hA (c_X5_append l D cI cJ cB a0 a_cells a_p1 a_p1_cells _ 0 cells cells_n p1_rows p1_cells p1_cells_n x2 x3 N hz9) wm_811 cv_X5_append [0, 1, 2, 3] [] [0, 1, 2, 3] (⟨rfl, rfl, rfl, by decide, rfl⟩ : Ix [0, 1, 2, 3] [] [0, 1, 2, 3] 4) rfl rfl rfl rfl rfl rfl ⟨rfl, rfl, by decide, by decide⟩ hl.1 rfl (Nat.le_of_ble_eq_true rfl) ⟨Nat.zero_le _, Nat.zero_le _⟩ dX5_become_9 (fun H locs hP hD hS => ?_)
  obtain rfl := Option.some.inj h
  exact r_vret F hr hlk dX5_become_12 hsz hP hD hS
section G_X5_cut
abbrev ws_X5_cut (cI cJ cB : ClassId) (a0 a_cells : Nat) (rows : Int32) : va_W := [(a0, .inr (7, [.ref a_cells, .int rows]))]
abbrev rm_X5_cut : Room := { frames := 0, cells := 0, slots := 0, locals := 0 }
def f_X5_cut_17 (N : Nat) (rows : Int32) : Option ((Int32)) := some rows
def f_X5_cut (N : Nat) (rows : Int32) (x1 : Int32) : Option ((Int32)) := ifb (x1 < 0) (f_X5_cut_17 N rows) (ifb (rows ≤ x1) (f_X5_cut_17 N rows) (f_X5_cut_17 N x1))
variable {p : Program} {l : Launch} {e : Env} {s : State} {m : MethodId} {below : List Frame} {meth : Method} {c : Code} {args : Array Value} {x0 : Cond} {D : va_G} {cI cJ cB : ClassId} {sz N : Nat} {ws0 : va_W} {a0 a_cells : Nat} {z : (Int32)}
set_option maxHeartbeats 4000000 in
set_option maxRecDepth 100000 in
theorem w_X5_cut_17 (CX : Cx p m c cX5_cut 2 s args x0 RX5 meth none) (hK : va_K D vwCl (ty0 cI cJ cB) s) (hsz : s.heap.size = sz) : ∀ (rows : Int32) (H : Heap) (locs : List Loc) (ls : Array Slot), f_X5_cut_17 N rows = some z → va_P D vwCl (ws_X5_cut cI cJ cB a0 a_cells rows) H → va_D (va_A ws0 sz) (ws_X5_cut cI cJ cB a0 a_cells rows) → va_S (va_A ws0 sz) s.heap H locs → lv_has ls 2 [] → W p l e rm_X5_cut s m args below meth c H locs 0 0 (MQ below (gQ D sz ws0 (ws_X5_cut cI cJ cB a0 a_cells z) none) args s 0 0 (va_A ws0 sz)) (F0 m 17 ls []) := by
  obtain ⟨F, hr, hlk, hNw⟩ := id CX
  have hx := F.1
  have hb := F.2.1
  have hown := F.2.2.2.1
  have hA : ∀ q, s.heap.size ≤ q → va_A ws0 sz q := fun q hq => Or.inr (hsz ▸ hq)
  intro rows H locs ls h hP hD hS hl
  unfold f_X5_cut_17 at h
  obtain rfl := Option.some.inj h
  exact r_vret F hr hlk dX5_cut_17 hsz hP hD hS
end G_X5_cut
set_option maxHeartbeats 4000000 in
set_option maxRecDepth 100000 in
theorem c_X5_cut (l : Launch) (D : va_G) (cI cJ cB : ClassId) (a0 a_cells : Nat) (sz : Nat) (rows : Int32) (x1 : Int32) (N : Nat) {z : (Int32)} (h : f_X5_cut N rows x1 = some z) : Mg l yX5_cut cX5_cut 2 none rm_X5_cut D (ty0 cI cJ cB) [.ref a0, .int x1] sz (ws_X5_cut cI cJ cB a0 a_cells rows) none (ws_X5_cut cI cJ cB a0 a_cells z) := by
  refine Mg.of (by decide) (Nat.le_of_ble_eq_true rfl) ?_
  intro p e s m below meth c CX hK hsz hP hD ls hl
  have CX : Cx p m c cX5_cut 2 s ([.ref a0, .int x1] : List Value).toArray (Cond.code yX5_cut cX5_cut 2 none) RX5 meth none := CX
  obtain ⟨F, hr, hlk, hNw⟩ := id CX
  have hx := F.1
  have hb := F.2.1
  have hown := F.2.2.2.1
  have hl : lv_has ls 2 [(0, .ref a0), (1, .int x1)] := hl
  have hS : va_S (va_A (ws_X5_cut cI cJ cB a0 a_cells rows) sz) s.heap s.heap [] := va_S.rf
  have hA : ∀ q, s.heap.size ≤ q → va_A (ws_X5_cut cI cJ cB a0 a_cells rows) sz q := fun q hq => Or.inr (hsz ▸ hq)
  unfold f_X5_cut at h
  refine lv_iload_n hx hb dX5_cut_0 rfl (lv_at hl 1 rfl) ?_
  refine lv_if_lt (tgt := 17) hx hb dX5_cut_1 (by decide) (fun c1 => ?_) (fun c1 => ?_)
  · have h := o_t c1 h
    exact w_X5_cut_17 CX hK hsz rows _ _ _ h hP hD hS (lv_sub hl [] rfl)
  · have h := o_f c1 h
    refine lv_iload_n hx hb dX5_cut_4 rfl (lv_at hl 1 rfl) ?_
    refine lv_aload_n hx hb dX5_cut_5 rfl (lv_at hl 0 rfl) ?_
    refine r_get F hK hP 0 1 rfl inW_X5 wm_126 rfl (by decide) rfl dX5_cut_6 ?_
    refine lv_icmp_ge (tgt := 17) hx hb dX5_cut_9 (by decide) (fun c9 => ?_) (fun c9 => ?_)
    · have h := o_t c9 h
      exact w_X5_cut_17 CX hK hsz rows _ _ _ h hP hD hS (lv_sub hl [] rfl)
    · have h := o_f c9 h
      refine lv_aload_n hx hb dX5_cut_12 rfl (lv_at hl 0 rfl) ?_
      refine lv_iload_n hx hb dX5_cut_13 rfl (lv_at hl 1 rfl) ?_
      refine r_put (wn := (ws_X5_cut cI cJ cB a0 a_cells x1)) F hK hP hD hS 0 1 rfl inW_X5 wm_126 tyX5_ok nmX5 rfl rfl (by decide) rfl rfl (Nat.le_of_ble_eq_true rfl) rfl dX5_cut_14 (fun H locs hP hD hS => ?_)
      exact w_X5_cut_17 CX hK hsz x1 _ _ _ h hP hD hS (lv_sub hl [] rfl)
section G_X5_slide
abbrev ws_X5_slide (cI cJ cB : ClassId) (a0 a_cells : Nat) (rows : Int32) (cells : Nat → Int32) (cells_n : Nat) : va_W := [(a0, .inr (7, [.ref a_cells, .int rows])), (a_cells, .inl (cI, cells_n, .inl cells))]
abbrev rm_X5_slide : Room := { frames := 1, cells := 0, slots := 0, locals := 40 }
def f_X5_slide_17 (N : Nat) (rows : Int32) (cells : Nat → Int32) (cells_n : Nat) : Option ((Int32) × (Nat → Int32)) := some (rows, cells)
def f_X5_slide (N : Nat) (rows : Int32) (cells : Nat → Int32) (cells_n : Nat) (x1 : Int32) (x2 : Int32) : Option ((Int32) × (Nat → Int32)) := ifb (x2 < 0) (f_X5_slide_17 N rows cells cells_n) (ifb (x1 < x2) (f_X5_slide_17 N rows cells cells_n) (ifb (x1 ≤ rows) (ckp (((¬ (x1 * 10) < 0 ∧ ¬ (x2 * 10) < 0) ∧ ¬ ((rows - x1) * 10) < 0) ∧ ((x1 * 10).toNatClampNeg + ((rows - x1) * 10).toNatClampNeg ≤ cells_n ∧ (x2 * 10).toNatClampNeg + ((rows - x1) * 10).toNatClampNeg ≤ cells_n)) (some (rows - (x1 - x2), va_cpy cells cells (x1 * 10).toNatClampNeg (x2 * 10).toNatClampNeg ((rows - x1) * 10).toNatClampNeg))) (f_X5_slide_17 N rows cells cells_n)))
variable {p : Program} {l : Launch} {e : Env} {s : State} {m : MethodId} {below : List Frame} {meth : Method} {c : Code} {args : Array Value} {x0 : Cond} {D : va_G} {cI cJ cB : ClassId} {sz N : Nat} {ws0 : va_W} {a0 a_cells : Nat} {cells_n : Nat} {z : (Int32) × (Nat → Int32)}
set_option maxHeartbeats 4000000 in
set_option maxRecDepth 100000 in
theorem w_X5_slide_17 (CX : Cx p m c cX5_slide 3 s args x0 RX5 meth none) (hK : va_K D vwCl (ty0 cI cJ cB) s) (hsz : s.heap.size = sz) : ∀ (rows : Int32) (cells : Nat → Int32) (H : Heap) (locs : List Loc) (ls : Array Slot), f_X5_slide_17 N rows cells cells_n = some z → va_P D vwCl (ws_X5_slide cI cJ cB a0 a_cells rows cells cells_n) H → va_D (va_A ws0 sz) (ws_X5_slide cI cJ cB a0 a_cells rows cells cells_n) → va_S (va_A ws0 sz) s.heap H locs → lv_has ls 3 [] → W p l e rm_X5_slide s m args below meth c H locs 0 0 (MQ below (gQ D sz ws0 (ws_X5_slide cI cJ cB a0 a_cells z.1 z.2 cells_n) none) args s 0 0 (va_A ws0 sz)) (F0 m 17 ls []) := by
  obtain ⟨F, hr, hlk, hNw⟩ := id CX
  have hx := F.1
  have hb := F.2.1
  have hown := F.2.2.2.1
  have hA : ∀ q, s.heap.size ≤ q → va_A ws0 sz q := fun q hq => Or.inr (hsz ▸ hq)
  intro rows cells H locs ls h hP hD hS hl
  unfold f_X5_slide_17 at h
  obtain rfl := Option.some.inj h
  exact r_vret F hr hlk dX5_slide_17 hsz hP hD hS
end G_X5_slide
set_option maxHeartbeats 4000000 in
set_option maxRecDepth 100000 in
theorem c_X5_slide (l : Launch) (D : va_G) (cI cJ cB : ClassId) (a0 a_cells : Nat) (sz : Nat) (rows : Int32) (cells : Nat → Int32) (cells_n : Nat) (x1 : Int32) (x2 : Int32) (N : Nat) {z : (Int32) × (Nat → Int32)} (h : f_X5_slide N rows cells cells_n x1 x2 = some z) : Mg l yX5_slide cX5_slide 3 none rm_X5_slide D (ty0 cI cJ cB) [.ref a0, .int x1, .int x2] sz (ws_X5_slide cI cJ cB a0 a_cells rows cells cells_n) none (ws_X5_slide cI cJ cB a0 a_cells z.1 z.2 cells_n) := by
  refine Mg.of (by decide) (Nat.le_of_ble_eq_true rfl) ?_
  intro p e s m below meth c CX hK hsz hP hD ls hl
  have CX : Cx p m c cX5_slide 3 s ([.ref a0, .int x1, .int x2] : List Value).toArray (Cond.code yX5_slide cX5_slide 3 none) RX5 meth none := CX
  obtain ⟨F, hr, hlk, hNw⟩ := id CX
  have hx := F.1
  have hb := F.2.1
  have hown := F.2.2.2.1
  have hl : lv_has ls 3 [(0, .ref a0), (1, .int x1), (2, .int x2)] := hl
  have hS : va_S (va_A (ws_X5_slide cI cJ cB a0 a_cells rows cells cells_n) sz) s.heap s.heap [] := va_S.rf
  have hA : ∀ q, s.heap.size ≤ q → va_A (ws_X5_slide cI cJ cB a0 a_cells rows cells cells_n) sz q := fun q hq => Or.inr (hsz ▸ hq)
  unfold f_X5_slide at h
  refine lv_iload_n hx hb dX5_slide_0 rfl (lv_at hl 2 rfl) ?_
  refine lv_if_lt (tgt := 17) hx hb dX5_slide_1 (by decide) (fun c1 => ?_) (fun c1 => ?_)
  · have h := o_t c1 h
    exact w_X5_slide_17 CX hK hsz rows cells _ _ _ h hP hD hS (lv_sub hl [] rfl)
  · have h := o_f c1 h
    refine lv_iload_n hx hb dX5_slide_4 rfl (lv_at hl 2 rfl) ?_
    refine lv_iload_n hx hb dX5_slide_5 rfl (lv_at hl 1 rfl) ?_
    refine lv_icmp_gt (tgt := 17) hx hb dX5_slide_6 (by decide) (fun c6 => ?_) (fun c6 => ?_)
    · have h := o_t c6 h
      exact w_X5_slide_17 CX hK hsz rows cells _ _ _ h hP hD hS (lv_sub hl [] rfl)
    · have h := o_f c6 h
      refine lv_iload_n hx hb dX5_slide_9 rfl (lv_at hl 1 rfl) ?_
      refine lv_aload_n hx hb dX5_slide_10 rfl (lv_at hl 0 rfl) ?_
      refine r_get F hK hP 0 1 rfl inW_X5 wm_126 rfl (by decide) rfl dX5_slide_11 ?_
      refine lv_icmp_le (tgt := 18) hx hb dX5_slide_14 (by decide) (fun c14 => ?_) (fun c14 => ?_)
      · have h := o_t c14 h
        refine lv_aload_n hx hb dX5_slide_18 rfl (lv_at hl 0 rfl) ?_
        refine r_get F hK hP 0 0 rfl inW_X5 wm_125 rfl (by decide) rfl dX5_slide_19 ?_
        refine lv_iload_n hx hb dX5_slide_22 rfl (lv_at hl 1 rfl) ?_
        refine lv_bipush (v := 10) hx hb dX5_slide_23 (by decide) ?_
        refine lv_imul hx hb dX5_slide_25 ?_
        refine lv_aload_n hx hb dX5_slide_26 rfl (lv_at hl 0 rfl) ?_
        refine r_get F hK hP 0 0 rfl inW_X5 wm_125 rfl (by decide) rfl dX5_slide_27 ?_
        refine lv_iload_n hx hb dX5_slide_30 rfl (lv_at hl 2 rfl) ?_
        refine lv_bipush (v := 10) hx hb dX5_slide_31 (by decide) ?_
        refine lv_imul hx hb dX5_slide_33 ?_
        refine lv_aload_n hx hb dX5_slide_34 rfl (lv_at hl 0 rfl) ?_
        refine r_get F hK hP 0 1 rfl inW_X5 wm_126 rfl (by decide) rfl dX5_slide_35 ?_
        refine lv_iload_n hx hb dX5_slide_38 rfl (lv_at hl 1 rfl) ?_
        refine lv_isub hx hb dX5_slide_39 ?_
        refine lv_bipush (v := 10) hx hb dX5_slide_40 (by decide) ?_
        refine lv_imul hx hb dX5_slide_42 ?_
        obtain ⟨hc43, h⟩ := o_c h
        refine va_copyi hx hb (F.2.2.1.trans hl.1.symm) hown (F.2.2.2.2 _ (q_in wm_776)) (F.2.2.2.2 _ (q_in wm_395)) (F.2.2.2.2 _ (q_in wm_394)) (F.2.2.2.2 _ (q_in wm_89)) hK hP hD hS 1 1 0 0 rfl rfl rfl rfl rfl hc43.1.1.1 hc43.1.1.2 hc43.1.2 hc43.2.1 hc43.2.2 (fun _ _ => rfl) (Nat.le_of_ble_eq_true rfl) (Nat.le_of_ble_eq_true rfl) dX5_slide_43 (fun H locs hP hD hS => ?_)
        have hP : va_P D vwCl (ws_X5_slide cI cJ cB a0 a_cells rows (va_cpy cells cells (x1 * 10).toNatClampNeg (x2 * 10).toNatClampNeg ((rows - x1) * 10).toNatClampNeg) cells_n) H := hP
        have hD : va_D _ (ws_X5_slide cI cJ cB a0 a_cells rows (va_cpy cells cells (x1 * 10).toNatClampNeg (x2 * 10).toNatClampNeg ((rows - x1) * 10).toNatClampNeg) cells_n) := hD
        refine lv_aload_n hx hb dX5_slide_46 rfl (lv_at hl 0 rfl) ?_
        refine lv_dup hx hb dX5_slide_47 rfl ?_
        refine r_get F hK hP 0 1 rfl inW_X5 wm_126 rfl (by decide) rfl dX5_slide_48 ?_
        refine lv_iload_n hx hb dX5_slide_51 rfl (lv_at hl 1 rfl) ?_
        refine lv_iload_n hx hb dX5_slide_52 rfl (lv_at hl 2 rfl) ?_
        refine lv_isub hx hb dX5_slide_53 ?_
        refine lv_isub hx hb dX5_slide_54 ?_
        refine r_put (wn := (ws_X5_slide cI cJ cB a0 a_cells (rows - (x1 - x2)) (va_cpy cells cells (x1 * 10).toNatClampNeg (x2 * 10).toNatClampNeg ((rows - x1) * 10).toNatClampNeg) cells_n)) F hK hP hD hS 0 1 rfl inW_X5 wm_126 tyX5_ok nmX5 rfl rfl (by decide) rfl rfl (Nat.le_of_ble_eq_true rfl) rfl dX5_slide_55 (fun H locs hP hD hS => ?_)
        obtain rfl := Option.some.inj h
        exact r_vret F hr hlk dX5_slide_58 hsz hP hD hS
      · have h := o_f c14 h
        exact w_X5_slide_17 CX hK hsz rows cells _ _ _ h hP hD hS (lv_sub hl [] rfl)
section G_X5_negate
abbrev ws_X5_negate (cI cJ cB : ClassId) (a0 a_cells : Nat) (rows : Int32) (cells : Nat → Int32) (cells_n : Nat) : va_W := [(a0, .inr (7, [.ref a_cells, .int rows])), (a_cells, .inl (cI, cells_n, .inl cells))]
abbrev rm_X5_negate : Room := { frames := 1, cells := 0, slots := 0, locals := 23 }
def f_X5_negate_98 (K16 : Int32 → (Nat → Int32) → Nat → Int32 → Int32 → Option ((Nat → Int32))) (N : Nat) (rows : Int32) (cells : Nat → Int32) (cells_n : Nat) (y3 : Int32) (y4 : Int32) : Option ((Nat → Int32)) := K16 rows cells cells_n y3 (y4 + 1)
def f_X5_negate_67 (K16 : Int32 → (Nat → Int32) → Nat → Int32 → Int32 → Option ((Nat → Int32))) (N : Nat) : Nat → Int32 → (Nat → Int32) → Nat → Int32 → Int32 → Int32 → Int32 → Option ((Nat → Int32))
  | 0 => fun _ _ _ _ _ _ _ => none
  | n + 1 => fun rows cells cells_n y3 y4 y5 y7 => ifb ((y5 + 10) ≤ y7) (f_X5_negate_98 K16 N rows cells cells_n y3 y4) (ix y7 cells_n (ix y7 cells_n (f_X5_negate_67 K16 N n rows (upd cells y7.toNatClampNeg (-(cells y7.toNatClampNeg))) cells_n y3 y4 y5 (y7 + 1))))
def f_X5_negate_61 (K16 : Int32 → (Nat → Int32) → Nat → Int32 → Int32 → Option ((Nat → Int32))) (N : Nat) (rows : Int32) (cells : Nat → Int32) (cells_n : Nat) (y3 : Int32) (y4 : Int32) (y5 : Int32) : Option ((Nat → Int32)) := f_X5_negate_67 K16 N N rows cells cells_n y3 y4 y5 (y5 + 1)
def f_X5_negate_16 (N : Nat) : Nat → Int32 → (Nat → Int32) → Nat → Int32 → Int32 → Option ((Nat → Int32))
  | 0 => fun _ _ _ _ _ => none
  | n + 1 => fun rows cells cells_n y3 y4 => ifb (y3 ≤ y4) (some cells) (ix (y4 * 10) cells_n (ix (y4 * 10) cells_n (ifb ((cells (y4 * 10).toNatClampNeg) = 4) (f_X5_negate_61 (f_X5_negate_16 N n) N rows (upd cells (y4 * 10).toNatClampNeg ((cells (y4 * 10).toNatClampNeg) ^^^ 1)) cells_n y3 y4 (y4 * 10)) (ifb ((cells (y4 * 10).toNatClampNeg) = 5) (f_X5_negate_61 (f_X5_negate_16 N n) N rows (upd cells (y4 * 10).toNatClampNeg ((cells (y4 * 10).toNatClampNeg) ^^^ 1)) cells_n y3 y4 (y4 * 10)) (f_X5_negate_98 (f_X5_negate_16 N n) N rows (upd cells (y4 * 10).toNatClampNeg ((cells (y4 * 10).toNatClampNeg) ^^^ 1)) cells_n y3 y4)))))
def f_X5_negate (N : Nat) (rows : Int32) (cells : Nat → Int32) (cells_n : Nat) (x1 : Int32) (x2 : Int32) : Option ((Nat → Int32)) := f_X5_negate_16 N N rows cells cells_n (jmin x2 rows) (jmax x1 0)
variable {p : Program} {l : Launch} {e : Env} {s : State} {m : MethodId} {below : List Frame} {meth : Method} {c : Code} {args : Array Value} {x0 : Cond} {D : va_G} {cI cJ cB : ClassId} {sz N : Nat} {ws0 : va_W} {a0 a_cells : Nat} {rows : Int32} {cells_n : Nat} {z : (Nat → Int32)}
set_option maxHeartbeats 4000000 in
set_option maxRecDepth 100000 in
theorem w_X5_negate_98 (CX : Cx p m c cX5_negate 8 s args x0 RX5 meth none) (hK : va_K D vwCl (ty0 cI cJ cB) s) (hsz : s.heap.size = sz) {K16 : Int32 → (Nat → Int32) → Nat → Int32 → Int32 → Option ((Nat → Int32))} (hK16 : ∀ (cells : Nat → Int32) (y3 : Int32) (y4 : Int32) (H : Heap) (locs : List Loc) (ls : Array Slot), K16 rows cells cells_n y3 y4 = some z → va_P D vwCl (ws_X5_negate cI cJ cB a0 a_cells rows cells cells_n) H → va_D (va_A ws0 sz) (ws_X5_negate cI cJ cB a0 a_cells rows cells cells_n) → va_S (va_A ws0 sz) s.heap H locs → lv_has ls 8 [(0, .ref a0), (3, .int y3), (4, .int y4)] → W p l e rm_X5_negate s m args below meth c H locs 0 0 (MQ below (gQ D sz ws0 (ws_X5_negate cI cJ cB a0 a_cells rows z cells_n) none) args s 0 0 (va_A ws0 sz)) (F0 m 16 ls [])) : ∀ (cells : Nat → Int32) (y3 : Int32) (y4 : Int32) (H : Heap) (locs : List Loc) (ls : Array Slot), f_X5_negate_98 K16 N rows cells cells_n y3 y4 = some z → va_P D vwCl (ws_X5_negate cI cJ cB a0 a_cells rows cells cells_n) H → va_D (va_A ws0 sz) (ws_X5_negate cI cJ cB a0 a_cells rows cells cells_n) → va_S (va_A ws0 sz) s.heap H locs → lv_has ls 8 [(0, .ref a0), (3, .int y3), (4, .int y4)] → W p l e rm_X5_negate s m args below meth c H locs 0 0 (MQ below (gQ D sz ws0 (ws_X5_negate cI cJ cB a0 a_cells rows z cells_n) none) args s 0 0 (va_A ws0 sz)) (F0 m 98 ls []) := by
  obtain ⟨F, hr, hlk, hNw⟩ := id CX
  have hx := F.1
  have hb := F.2.1
  have hown := F.2.2.2.1
  have hA : ∀ q, s.heap.size ≤ q → va_A ws0 sz q := fun q hq => Or.inr (hsz ▸ hq)
  intro cells y3 y4 H locs ls h hP hD hS hl
  unfold f_X5_negate_98 at h
  refine lv_iinc (v := y4 + 1) (lv' := [(4, .int (y4 + 1)), (0, .ref a0), (3, .int y3)]) hx hb dX5_negate_98 hl (k := 2) rfl rfl (by decide) rfl (fun ls hl => ?_)
  refine lv_goto (tgt := 16) hx hb dX5_negate_101 (by decide) ?_
  exact hK16 cells y3 (y4 + 1) _ _ _ h hP hD hS (lv_sub hl [1, 2, 0] rfl)
set_option maxHeartbeats 4000000 in
set_option maxRecDepth 100000 in
theorem w_X5_negate_67 (CX : Cx p m c cX5_negate 8 s args x0 RX5 meth none) (hK : va_K D vwCl (ty0 cI cJ cB) s) (hsz : s.heap.size = sz) {K16 : Int32 → (Nat → Int32) → Nat → Int32 → Int32 → Option ((Nat → Int32))} (hK16 : ∀ (cells : Nat → Int32) (y3 : Int32) (y4 : Int32) (H : Heap) (locs : List Loc) (ls : Array Slot), K16 rows cells cells_n y3 y4 = some z → va_P D vwCl (ws_X5_negate cI cJ cB a0 a_cells rows cells cells_n) H → va_D (va_A ws0 sz) (ws_X5_negate cI cJ cB a0 a_cells rows cells cells_n) → va_S (va_A ws0 sz) s.heap H locs → lv_has ls 8 [(0, .ref a0), (3, .int y3), (4, .int y4)] → W p l e rm_X5_negate s m args below meth c H locs 0 0 (MQ below (gQ D sz ws0 (ws_X5_negate cI cJ cB a0 a_cells rows z cells_n) none) args s 0 0 (va_A ws0 sz)) (F0 m 16 ls [])) : ∀ (n : Nat), ∀ (cells : Nat → Int32) (y3 : Int32) (y4 : Int32) (y5 : Int32) (y7 : Int32) (H : Heap) (locs : List Loc) (ls : Array Slot), f_X5_negate_67 K16 N n rows cells cells_n y3 y4 y5 y7 = some z → va_P D vwCl (ws_X5_negate cI cJ cB a0 a_cells rows cells cells_n) H → va_D (va_A ws0 sz) (ws_X5_negate cI cJ cB a0 a_cells rows cells cells_n) → va_S (va_A ws0 sz) s.heap H locs → lv_has ls 8 [(0, .ref a0), (3, .int y3), (4, .int y4), (5, .int y5), (7, .int y7)] → W p l e rm_X5_negate s m args below meth c H locs 0 0 (MQ below (gQ D sz ws0 (ws_X5_negate cI cJ cB a0 a_cells rows z cells_n) none) args s 0 0 (va_A ws0 sz)) (F0 m 67 ls []) := by
  obtain ⟨F, hr, hlk, hNw⟩ := id CX
  have hx := F.1
  have hb := F.2.1
  have hown := F.2.2.2.1
  have hA : ∀ q, s.heap.size ≤ q → va_A ws0 sz q := fun q hq => Or.inr (hsz ▸ hq)
  intro n
  induction n with
  | zero =>
    intro cells y3 y4 y5 y7 H locs ls h
    cases h
  | succ n ih =>
    intro cells y3 y4 y5 y7 H locs ls h hP hD hS hl
    unfold f_X5_negate_67 at h
    refine lv_iload hx hb dX5_negate_67 (lv_at hl 4 rfl) ?_
    refine lv_iload hx hb dX5_negate_69 (lv_at hl 3 rfl) ?_
    refine lv_bipush (v := 10) hx hb dX5_negate_71 (by decide) ?_
    refine lv_iadd hx hb dX5_negate_73 ?_
    refine lv_icmp_ge (tgt := 98) hx hb dX5_negate_74 (by decide) (fun c74 => ?_) (fun c74 => ?_)
    · have h := o_t c74 h
      exact w_X5_negate_98 CX hK hsz (hK16 := hK16) cells y3 y4 _ _ _ h hP hD hS (lv_sub hl [0, 1, 2] rfl)
    · have h := o_f c74 h
      refine lv_aload_n hx hb dX5_negate_77 rfl (lv_at hl 0 rfl) ?_
      refine r_get F hK hP 0 0 rfl inW_X5 wm_125 rfl (by decide) rfl dX5_negate_78 ?_
      refine lv_iload hx hb dX5_negate_81 (lv_at hl 4 rfl) ?_
      refine lv_aload_n hx hb dX5_negate_83 rfl (lv_at hl 0 rfl) ?_
      refine r_get F hK hP 0 0 rfl inW_X5 wm_125 rfl (by decide) rfl dX5_negate_84 ?_
      refine lv_iload hx hb dX5_negate_87 (lv_at hl 4 rfl) ?_
      obtain ⟨hi89, h⟩ := o_ix h
      refine va_iald hx hb hK hP 1 0 rfl rfl hi89 dX5_negate_89 ?_
      refine lv_ineg hx hb dX5_negate_90 ?_
      obtain ⟨hi91, h⟩ := o_ix h
      refine r_iast (wn := (ws_X5_negate cI cJ cB a0 a_cells rows (upd cells y7.toNatClampNeg (-(cells y7.toNatClampNeg))) cells_n)) F hK hP hD hS 1 0 hi91 rfl rfl rfl dX5_negate_91 (fun H locs hP hD hS => ?_)
      refine lv_iinc (v := y7 + 1) (lv' := [(7, .int (y7 + 1)), (0, .ref a0), (3, .int y3), (4, .int y4), (5, .int y5)]) hx hb dX5_negate_92 hl (k := 4) rfl rfl (by decide) rfl (fun ls hl => ?_)
      refine lv_goto (tgt := 67) hx hb dX5_negate_95 (by decide) ?_
      exact ih (upd cells y7.toNatClampNeg (-(cells y7.toNatClampNeg))) y3 y4 y5 (y7 + 1) _ _ _ h hP hD hS (lv_sub hl [1, 2, 3, 4, 0] rfl)
set_option maxHeartbeats 4000000 in
set_option maxRecDepth 100000 in
theorem w_X5_negate_61 (CX : Cx p m c cX5_negate 8 s args x0 RX5 meth none) (hK : va_K D vwCl (ty0 cI cJ cB) s) (hsz : s.heap.size = sz) {K16 : Int32 → (Nat → Int32) → Nat → Int32 → Int32 → Option ((Nat → Int32))} (hK16 : ∀ (cells : Nat → Int32) (y3 : Int32) (y4 : Int32) (H : Heap) (locs : List Loc) (ls : Array Slot), K16 rows cells cells_n y3 y4 = some z → va_P D vwCl (ws_X5_negate cI cJ cB a0 a_cells rows cells cells_n) H → va_D (va_A ws0 sz) (ws_X5_negate cI cJ cB a0 a_cells rows cells cells_n) → va_S (va_A ws0 sz) s.heap H locs → lv_has ls 8 [(0, .ref a0), (3, .int y3), (4, .int y4)] → W p l e rm_X5_negate s m args below meth c H locs 0 0 (MQ below (gQ D sz ws0 (ws_X5_negate cI cJ cB a0 a_cells rows z cells_n) none) args s 0 0 (va_A ws0 sz)) (F0 m 16 ls [])) : ∀ (cells : Nat → Int32) (y3 : Int32) (y4 : Int32) (y5 : Int32) (H : Heap) (locs : List Loc) (ls : Array Slot), f_X5_negate_61 K16 N rows cells cells_n y3 y4 y5 = some z → va_P D vwCl (ws_X5_negate cI cJ cB a0 a_cells rows cells cells_n) H → va_D (va_A ws0 sz) (ws_X5_negate cI cJ cB a0 a_cells rows cells cells_n) → va_S (va_A ws0 sz) s.heap H locs → lv_has ls 8 [(0, .ref a0), (3, .int y3), (4, .int y4), (5, .int y5)] → W p l e rm_X5_negate s m args below meth c H locs 0 0 (MQ below (gQ D sz ws0 (ws_X5_negate cI cJ cB a0 a_cells rows z cells_n) none) args s 0 0 (va_A ws0 sz)) (F0 m 61 ls []) := by
  obtain ⟨F, hr, hlk, hNw⟩ := id CX
  have hx := F.1
  have hb := F.2.1
  have hown := F.2.2.2.1
  have hA : ∀ q, s.heap.size ≤ q → va_A ws0 sz q := fun q hq => Or.inr (hsz ▸ hq)
  intro cells y3 y4 y5 H locs ls h hP hD hS hl
  unfold f_X5_negate_61 at h
  refine lv_iload hx hb dX5_negate_61 (lv_at hl 3 rfl) ?_
  refine lv_iconst (v := 1) hx hb dX5_negate_63 (by decide) ?_
  refine lv_iadd hx hb dX5_negate_64 ?_
  refine lv_istore (lv' := [(7, .int (y5 + 1)), (0, .ref a0), (3, .int y3), (4, .int y4), (5, .int y5)]) hx hb dX5_negate_65 hl (by decide) rfl (fun ls hl => ?_)
  exact w_X5_negate_67 CX hK hsz (hK16 := hK16) N cells y3 y4 y5 (y5 + 1) _ _ _ h hP hD hS (lv_sub hl [1, 2, 3, 4, 0] rfl)
set_option maxHeartbeats 4000000 in
set_option maxRecDepth 100000 in
theorem w_X5_negate_16 (CX : Cx p m c cX5_negate 8 s args x0 RX5 meth none) (hK : va_K D vwCl (ty0 cI cJ cB) s) (hsz : s.heap.size = sz) : ∀ (n : Nat), ∀ (cells : Nat → Int32) (y3 : Int32) (y4 : Int32) (H : Heap) (locs : List Loc) (ls : Array Slot), f_X5_negate_16 N n rows cells cells_n y3 y4 = some z → va_P D vwCl (ws_X5_negate cI cJ cB a0 a_cells rows cells cells_n) H → va_D (va_A ws0 sz) (ws_X5_negate cI cJ cB a0 a_cells rows cells cells_n) → va_S (va_A ws0 sz) s.heap H locs → lv_has ls 8 [(0, .ref a0), (3, .int y3), (4, .int y4)] → W p l e rm_X5_negate s m args below meth c H locs 0 0 (MQ below (gQ D sz ws0 (ws_X5_negate cI cJ cB a0 a_cells rows z cells_n) none) args s 0 0 (va_A ws0 sz)) (F0 m 16 ls []) := by
  obtain ⟨F, hr, hlk, hNw⟩ := id CX
  have hx := F.1
  have hb := F.2.1
  have hown := F.2.2.2.1
  have hA : ∀ q, s.heap.size ≤ q → va_A ws0 sz q := fun q hq => Or.inr (hsz ▸ hq)
  intro n
  induction n with
  | zero =>
    intro cells y3 y4 H locs ls h
    cases h
  | succ n ih =>
    intro cells y3 y4 H locs ls h hP hD hS hl
    unfold f_X5_negate_16 at h
    refine lv_iload hx hb dX5_negate_16 (lv_at hl 2 rfl) ?_
    refine lv_iload_n hx hb dX5_negate_18 rfl (lv_at hl 1 rfl) ?_
    refine lv_icmp_ge (tgt := 104) hx hb dX5_negate_19 (by decide) (fun c19 => ?_) (fun c19 => ?_)
    · have h := o_t c19 h
      obtain rfl := Option.some.inj h
      exact r_vret F hr hlk dX5_negate_104 hsz hP hD hS
    · have h := o_f c19 h
      refine lv_iload hx hb dX5_negate_22 (lv_at hl 2 rfl) ?_
      refine lv_bipush (v := 10) hx hb dX5_negate_24 (by decide) ?_
      refine lv_imul hx hb dX5_negate_26 ?_
      refine lv_istore (lv' := [(5, .int (y4 * 10)), (0, .ref a0), (3, .int y3), (4, .int y4)]) hx hb dX5_negate_27 hl (by decide) rfl (fun ls hl => ?_)
      refine lv_aload_n hx hb dX5_negate_29 rfl (lv_at hl 1 rfl) ?_
      refine r_get F hK hP 0 0 rfl inW_X5 wm_125 rfl (by decide) rfl dX5_negate_30 ?_
      refine lv_iload hx hb dX5_negate_33 (lv_at hl 0 rfl) ?_
      obtain ⟨hi35, h⟩ := o_ix h
      refine va_iald hx hb hK hP 1 0 rfl rfl hi35 dX5_negate_35 ?_
      refine lv_istore (lv' := [(6, .int (cells (y4 * 10).toNatClampNeg)), (5, .int (y4 * 10)), (0, .ref a0), (3, .int y3), (4, .int y4)]) hx hb dX5_negate_36 hl (by decide) rfl (fun ls hl => ?_)
      refine lv_aload_n hx hb dX5_negate_38 rfl (lv_at hl 2 rfl) ?_
      refine r_get F hK hP 0 0 rfl inW_X5 wm_125 rfl (by decide) rfl dX5_negate_39 ?_
      refine lv_iload hx hb dX5_negate_42 (lv_at hl 1 rfl) ?_
      refine lv_iload hx hb dX5_negate_44 (lv_at hl 0 rfl) ?_
      refine lv_iconst (v := 1) hx hb dX5_negate_46 (by decide) ?_
      refine lv_ixor hx hb dX5_negate_47 ?_
      obtain ⟨hi48, h⟩ := o_ix h
      refine r_iast (wn := (ws_X5_negate cI cJ cB a0 a_cells rows (upd cells (y4 * 10).toNatClampNeg ((cells (y4 * 10).toNatClampNeg) ^^^ 1)) cells_n)) F hK hP hD hS 1 0 hi48 rfl rfl rfl dX5_negate_48 (fun H locs hP hD hS => ?_)
      refine lv_iload hx hb dX5_negate_49 (lv_at hl 0 rfl) ?_
      refine lv_iconst (v := 4) hx hb dX5_negate_51 (by decide) ?_
      refine lv_icmp_eq (tgt := 61) hx hb dX5_negate_52 (by decide) (fun c52 => ?_) (fun c52 => ?_)
      · have h := o_t c52 h
        exact w_X5_negate_61 CX hK hsz (hK16 := ih) (upd cells (y4 * 10).toNatClampNeg ((cells (y4 * 10).toNatClampNeg) ^^^ 1)) y3 y4 (y4 * 10) _ _ _ h hP hD hS (lv_sub hl [2, 3, 4, 1] rfl)
      · have h := o_f c52 h
        refine lv_iload hx hb dX5_negate_55 (lv_at hl 0 rfl) ?_
        refine lv_iconst (v := 5) hx hb dX5_negate_57 (by decide) ?_
        refine lv_icmp_ne (tgt := 98) hx hb dX5_negate_58 (by decide) (fun c58 => ?_) (fun c58 => ?_)
        · have h := o_f c58 h
          exact w_X5_negate_98 CX hK hsz (hK16 := ih) (upd cells (y4 * 10).toNatClampNeg ((cells (y4 * 10).toNatClampNeg) ^^^ 1)) y3 y4 _ _ _ h hP hD hS (lv_sub hl [2, 3, 4] rfl)
        · have h := o_t c58 h
          exact w_X5_negate_61 CX hK hsz (hK16 := ih) (upd cells (y4 * 10).toNatClampNeg ((cells (y4 * 10).toNatClampNeg) ^^^ 1)) y3 y4 (y4 * 10) _ _ _ h hP hD hS (lv_sub hl [2, 3, 4, 1] rfl)
end G_X5_negate
set_option maxHeartbeats 4000000 in
set_option maxRecDepth 100000 in
theorem c_X5_negate (l : Launch) (D : va_G) (cI cJ cB : ClassId) (a0 a_cells : Nat) (sz : Nat) (rows : Int32) (cells : Nat → Int32) (cells_n : Nat) (x1 : Int32) (x2 : Int32) (N : Nat) {z : (Nat → Int32)} (h : f_X5_negate N rows cells cells_n x1 x2 = some z) : Mg l yX5_negate cX5_negate 8 none rm_X5_negate D (ty0 cI cJ cB) [.ref a0, .int x1, .int x2] sz (ws_X5_negate cI cJ cB a0 a_cells rows cells cells_n) none (ws_X5_negate cI cJ cB a0 a_cells rows z cells_n) := by
  refine Mg.of (by decide) (Nat.le_of_ble_eq_true rfl) ?_
  intro p e s m below meth c CX hK hsz hP hD ls hl
  have CX : Cx p m c cX5_negate 8 s ([.ref a0, .int x1, .int x2] : List Value).toArray (Cond.code yX5_negate cX5_negate 8 none) RX5 meth none := CX
  obtain ⟨F, hr, hlk, hNw⟩ := id CX
  have hx := F.1
  have hb := F.2.1
  have hown := F.2.2.2.1
  have hl : lv_has ls 8 [(0, .ref a0), (1, .int x1), (2, .int x2)] := hl
  have hS : va_S (va_A (ws_X5_negate cI cJ cB a0 a_cells rows cells cells_n) sz) s.heap s.heap [] := va_S.rf
  have hA : ∀ q, s.heap.size ≤ q → va_A (ws_X5_negate cI cJ cB a0 a_cells rows cells cells_n) sz q := fun q hq => Or.inr (hsz ▸ hq)
  unfold f_X5_negate at h
  refine lv_iload_n hx hb dX5_negate_0 rfl (lv_at hl 2 rfl) ?_
  refine lv_aload_n hx hb dX5_negate_1 rfl (lv_at hl 0 rfl) ?_
  refine r_get F hK hP 0 1 rfl inW_X5 wm_126 rfl (by decide) rfl dX5_negate_2 ?_
  refine va_mmin hx hb (F.2.2.1.trans hl.1.symm) hown (F.2.2.2.2 _ (q_in wm_785)) (F.2.2.2.2 _ (q_in wm_391)) (F.2.2.2.2 _ (q_in wm_75)) (F.2.2.2.2 _ (q_in wm_392)) (Nat.le_of_ble_eq_true rfl) (Nat.le_of_ble_eq_true rfl) (Nat.zero_le _) (Nat.zero_le _) dX5_negate_5 ?_
  refine lv_istore_n (lv' := [(3, .int (jmin x2 rows)), (0, .ref a0), (1, .int x1), (2, .int x2)]) hx hb dX5_negate_8 rfl hl (by decide) rfl (fun ls hl => ?_)
  refine lv_iload_n hx hb dX5_negate_9 rfl (lv_at hl 2 rfl) ?_
  refine lv_iconst (v := 0) hx hb dX5_negate_10 (by decide) ?_
  refine va_mmax hx hb (F.2.2.1.trans hl.1.symm) hown (F.2.2.2.2 _ (q_in wm_122)) (F.2.2.2.2 _ (q_in wm_123)) (F.2.2.2.2 _ (q_in wm_75)) (F.2.2.2.2 _ (q_in wm_124)) (Nat.le_of_ble_eq_true rfl) (Nat.le_of_ble_eq_true rfl) (Nat.zero_le _) (Nat.zero_le _) dX5_negate_11 ?_
  refine lv_istore (lv' := [(4, .int (jmax x1 0)), (3, .int (jmin x2 rows)), (0, .ref a0), (1, .int x1), (2, .int x2)]) hx hb dX5_negate_14 hl (by decide) rfl (fun ls hl => ?_)
  exact w_X5_negate_16 CX hK hsz N cells (jmin x2 rows) (jmax x1 0) _ _ _ h hP hD hS (lv_sub hl [2, 1, 0] rfl)
section G_X5_repeats
abbrev ws_X5_repeats (cI cJ cB : ClassId) (a0 a_cells : Nat) (rows : Int32) (cells : Nat → Int32) (cells_n : Nat) : va_W := [(a0, .inr (7, [.ref a_cells, .int rows])), (a_cells, .inl (cI, cells_n, .inl cells))]
abbrev rm_X5_repeats : Room := { frames := 0, cells := 0, slots := 0, locals := 0 }
def f_X5_repeats_16 (N : Nat) (rows : Int32) (cells : Nat → Int32) (cells_n : Nat) : Option (Int32) := some 0
def f_X5_repeats_31 (N : Nat) : Nat → Int32 → (Nat → Int32) → Nat → Int32 → Int32 → Option (Int32)
  | 0 => fun _ _ _ _ _ => none
  | n + 1 => fun rows cells cells_n y3 y4 => ifb ((rows * 10) ≤ y4) (some 1) (ix y4 cells_n (ix (y4 - y3) cells_n (ifb ((cells y4.toNatClampNeg) = (cells (y4 - y3).toNatClampNeg)) (f_X5_repeats_31 N n rows cells cells_n y3 (y4 + 1)) (some 0))))
def f_X5_repeats (N : Nat) (rows : Int32) (cells : Nat → Int32) (cells_n : Nat) (x1 : Int32) (x2 : Int32) : Option (Int32) := ifb (x1 < 0) (f_X5_repeats_16 N rows cells cells_n) (ifb ((x2 - x1) = (rows - x2)) (f_X5_repeats_31 N N rows cells cells_n ((x2 - x1) * 10) (x2 * 10)) (f_X5_repeats_16 N rows cells cells_n))
variable {p : Program} {l : Launch} {e : Env} {s : State} {m : MethodId} {below : List Frame} {meth : Method} {c : Code} {args : Array Value} {x0 : Cond} {D : va_G} {cI cJ cB : ClassId} {sz N : Nat} {ws0 : va_W} {a0 a_cells : Nat} {rows : Int32} {cells : Nat → Int32} {cells_n : Nat} {z : Int32}
set_option maxHeartbeats 4000000 in
set_option maxRecDepth 100000 in
theorem w_X5_repeats_16 (CX : Cx p m c cX5_repeats 5 s args x0 RX5 meth (some .boolean)) (hK : va_K D vwCl (ty0 cI cJ cB) s) (hsz : s.heap.size = sz) : ∀ (H : Heap) (locs : List Loc) (ls : Array Slot), f_X5_repeats_16 N rows cells cells_n = some z → va_P D vwCl (ws_X5_repeats cI cJ cB a0 a_cells rows cells cells_n) H → va_D (va_A ws0 sz) (ws_X5_repeats cI cJ cB a0 a_cells rows cells cells_n) → va_S (va_A ws0 sz) s.heap H locs → lv_has ls 5 [] → W p l e rm_X5_repeats s m args below meth c H locs 0 0 (MQ below (gQ D sz ws0 (ws_X5_repeats cI cJ cB a0 a_cells rows cells cells_n) (some (.int z))) args s 0 0 (va_A ws0 sz)) (F0 m 16 ls []) := by
  obtain ⟨F, hr, hlk, hNw⟩ := id CX
  have hx := F.1
  have hb := F.2.1
  have hown := F.2.2.2.1
  have hA : ∀ q, s.heap.size ≤ q → va_A ws0 sz q := fun q hq => Or.inr (hsz ▸ hq)
  intro  H locs ls h hP hD hS hl
  unfold f_X5_repeats_16 at h
  refine lv_iconst (v := 0) hx hb dX5_repeats_16 (by decide) ?_
  obtain rfl := Option.some.inj h
  exact r_ret (v := 0) F hr hlk rfl dX5_repeats_17 hsz hP hD hS
set_option maxHeartbeats 4000000 in
set_option maxRecDepth 100000 in
theorem w_X5_repeats_31 (CX : Cx p m c cX5_repeats 5 s args x0 RX5 meth (some .boolean)) (hK : va_K D vwCl (ty0 cI cJ cB) s) (hsz : s.heap.size = sz) : ∀ (n : Nat), ∀ (y3 : Int32) (y4 : Int32) (H : Heap) (locs : List Loc) (ls : Array Slot), f_X5_repeats_31 N n rows cells cells_n y3 y4 = some z → va_P D vwCl (ws_X5_repeats cI cJ cB a0 a_cells rows cells cells_n) H → va_D (va_A ws0 sz) (ws_X5_repeats cI cJ cB a0 a_cells rows cells cells_n) → va_S (va_A ws0 sz) s.heap H locs → lv_has ls 5 [(0, .ref a0), (3, .int y3), (4, .int y4)] → W p l e rm_X5_repeats s m args below meth c H locs 0 0 (MQ below (gQ D sz ws0 (ws_X5_repeats cI cJ cB a0 a_cells rows cells cells_n) (some (.int z))) args s 0 0 (va_A ws0 sz)) (F0 m 31 ls []) := by
  obtain ⟨F, hr, hlk, hNw⟩ := id CX
  have hx := F.1
  have hb := F.2.1
  have hown := F.2.2.2.1
  have hA : ∀ q, s.heap.size ≤ q → va_A ws0 sz q := fun q hq => Or.inr (hsz ▸ hq)
  intro n
  induction n with
  | zero =>
    intro y3 y4 H locs ls h
    cases h
  | succ n ih =>
    intro y3 y4 H locs ls h hP hD hS hl
    unfold f_X5_repeats_31 at h
    refine lv_iload hx hb dX5_repeats_31 (lv_at hl 2 rfl) ?_
    refine lv_aload_n hx hb dX5_repeats_33 rfl (lv_at hl 0 rfl) ?_
    refine r_get F hK hP 0 1 rfl inW_X5 wm_126 rfl (by decide) rfl dX5_repeats_34 ?_
    refine lv_bipush (v := 10) hx hb dX5_repeats_37 (by decide) ?_
    refine lv_imul hx hb dX5_repeats_39 ?_
    refine lv_icmp_ge (tgt := 70) hx hb dX5_repeats_40 (by decide) (fun c40 => ?_) (fun c40 => ?_)
    · have h := o_t c40 h
      refine lv_iconst (v := 1) hx hb dX5_repeats_70 (by decide) ?_
      obtain rfl := Option.some.inj h
      exact r_ret (v := 1) F hr hlk rfl dX5_repeats_71 hsz hP hD hS
    · have h := o_f c40 h
      refine lv_aload_n hx hb dX5_repeats_43 rfl (lv_at hl 0 rfl) ?_
      refine r_get F hK hP 0 0 rfl inW_X5 wm_125 rfl (by decide) rfl dX5_repeats_44 ?_
      refine lv_iload hx hb dX5_repeats_47 (lv_at hl 2 rfl) ?_
      obtain ⟨hi49, h⟩ := o_ix h
      refine va_iald hx hb hK hP 1 0 rfl rfl hi49 dX5_repeats_49 ?_
      refine lv_aload_n hx hb dX5_repeats_50 rfl (lv_at hl 0 rfl) ?_
      refine r_get F hK hP 0 0 rfl inW_X5 wm_125 rfl (by decide) rfl dX5_repeats_51 ?_
      refine lv_iload hx hb dX5_repeats_54 (lv_at hl 2 rfl) ?_
      refine lv_iload_n hx hb dX5_repeats_56 rfl (lv_at hl 1 rfl) ?_
      refine lv_isub hx hb dX5_repeats_57 ?_
      obtain ⟨hi58, h⟩ := o_ix h
      refine va_iald hx hb hK hP 1 0 rfl rfl hi58 dX5_repeats_58 ?_
      refine lv_icmp_eq (tgt := 64) hx hb dX5_repeats_59 (by decide) (fun c59 => ?_) (fun c59 => ?_)
      · have h := o_t c59 h
        refine lv_iinc (v := y4 + 1) (lv' := [(4, .int (y4 + 1)), (0, .ref a0), (3, .int y3)]) hx hb dX5_repeats_64 hl (k := 2) rfl rfl (by decide) rfl (fun ls hl => ?_)
        refine lv_goto (tgt := 31) hx hb dX5_repeats_67 (by decide) ?_
        exact ih y3 (y4 + 1) _ _ _ h hP hD hS (lv_sub hl [1, 2, 0] rfl)
      · have h := o_f c59 h
        refine lv_iconst (v := 0) hx hb dX5_repeats_62 (by decide) ?_
        obtain rfl := Option.some.inj h
        exact r_ret (v := 0) F hr hlk rfl dX5_repeats_63 hsz hP hD hS
end G_X5_repeats
set_option maxHeartbeats 4000000 in
set_option maxRecDepth 100000 in
theorem c_X5_repeats (l : Launch) (D : va_G) (cI cJ cB : ClassId) (a0 a_cells : Nat) (sz : Nat) (rows : Int32) (cells : Nat → Int32) (cells_n : Nat) (x1 : Int32) (x2 : Int32) (N : Nat) {z : Int32} (h : f_X5_repeats N rows cells cells_n x1 x2 = some z) : Mg l yX5_repeats cX5_repeats 5 (some .boolean) rm_X5_repeats D (ty0 cI cJ cB) [.ref a0, .int x1, .int x2] sz (ws_X5_repeats cI cJ cB a0 a_cells rows cells cells_n) (some (.int z)) (ws_X5_repeats cI cJ cB a0 a_cells rows cells cells_n) := by
  refine Mg.of (by decide) (Nat.le_of_ble_eq_true rfl) ?_
  intro p e s m below meth c CX hK hsz hP hD ls hl
  have CX : Cx p m c cX5_repeats 5 s ([.ref a0, .int x1, .int x2] : List Value).toArray (Cond.code yX5_repeats cX5_repeats 5 (some .boolean)) RX5 meth (some .boolean) := CX
  obtain ⟨F, hr, hlk, hNw⟩ := id CX
  have hx := F.1
  have hb := F.2.1
  have hown := F.2.2.2.1
  have hl : lv_has ls 5 [(0, .ref a0), (1, .int x1), (2, .int x2)] := hl
  have hS : va_S (va_A (ws_X5_repeats cI cJ cB a0 a_cells rows cells cells_n) sz) s.heap s.heap [] := va_S.rf
  have hA : ∀ q, s.heap.size ≤ q → va_A (ws_X5_repeats cI cJ cB a0 a_cells rows cells cells_n) sz q := fun q hq => Or.inr (hsz ▸ hq)
  unfold f_X5_repeats at h
  refine lv_iload_n hx hb dX5_repeats_0 rfl (lv_at hl 1 rfl) ?_
  refine lv_if_lt (tgt := 16) hx hb dX5_repeats_1 (by decide) (fun c1 => ?_) (fun c1 => ?_)
  · have h := o_t c1 h
    exact w_X5_repeats_16 CX hK hsz  _ _ _ h hP hD hS (lv_sub hl [] rfl)
  · have h := o_f c1 h
    refine lv_iload_n hx hb dX5_repeats_4 rfl (lv_at hl 2 rfl) ?_
    refine lv_iload_n hx hb dX5_repeats_5 rfl (lv_at hl 1 rfl) ?_
    refine lv_isub hx hb dX5_repeats_6 ?_
    refine lv_aload_n hx hb dX5_repeats_7 rfl (lv_at hl 0 rfl) ?_
    refine r_get F hK hP 0 1 rfl inW_X5 wm_126 rfl (by decide) rfl dX5_repeats_8 ?_
    refine lv_iload_n hx hb dX5_repeats_11 rfl (lv_at hl 2 rfl) ?_
    refine lv_isub hx hb dX5_repeats_12 ?_
    refine lv_icmp_eq (tgt := 18) hx hb dX5_repeats_13 (by decide) (fun c13 => ?_) (fun c13 => ?_)
    · have h := o_t c13 h
      refine lv_iload_n hx hb dX5_repeats_18 rfl (lv_at hl 2 rfl) ?_
      refine lv_iload_n hx hb dX5_repeats_19 rfl (lv_at hl 1 rfl) ?_
      refine lv_isub hx hb dX5_repeats_20 ?_
      refine lv_bipush (v := 10) hx hb dX5_repeats_21 (by decide) ?_
      refine lv_imul hx hb dX5_repeats_23 ?_
      refine lv_istore_n (lv' := [(3, .int ((x2 - x1) * 10)), (0, .ref a0), (1, .int x1), (2, .int x2)]) hx hb dX5_repeats_24 rfl hl (by decide) rfl (fun ls hl => ?_)
      refine lv_iload_n hx hb dX5_repeats_25 rfl (lv_at hl 3 rfl) ?_
      refine lv_bipush (v := 10) hx hb dX5_repeats_26 (by decide) ?_
      refine lv_imul hx hb dX5_repeats_28 ?_
      refine lv_istore (lv' := [(4, .int (x2 * 10)), (3, .int ((x2 - x1) * 10)), (0, .ref a0), (1, .int x1), (2, .int x2)]) hx hb dX5_repeats_29 hl (by decide) rfl (fun ls hl => ?_)
      exact w_X5_repeats_31 CX hK hsz N ((x2 - x1) * 10) (x2 * 10) _ _ _ h hP hD hS (lv_sub hl [2, 1, 0] rfl)
    · have h := o_f c13 h
      exact w_X5_repeats_16 CX hK hsz  _ _ _ h hP hD hS (lv_sub hl [] rfl)
section G_X5_howMany
abbrev ws_X5_howMany (cI cJ cB : ClassId) (a0 a_cells : Nat) (rows : Int32) (cells : Nat → Int32) (cells_n : Nat) : va_W := [(a0, .inr (7, [.ref a_cells, .int rows])), (a_cells, .inl (cI, cells_n, .inl cells))]
abbrev rm_X5_howMany : Room := { frames := 0, cells := 0, slots := 0, locals := 0 }
def f_X5_howMany_41 (K5 : Int32 → (Nat → Int32) → Nat → Int32 → Int32 → Int32 → Int32 → Option (Int32)) (N : Nat) (rows : Int32) (cells : Nat → Int32) (cells_n : Nat) (y1 : Int32) (y2 : Int32) (y3 : Int32) (y4 : Int32) : Option (Int32) := K5 rows cells cells_n y1 y2 y3 (y4 + 1)
def f_X5_howMany_5 (N : Nat) : Nat → Int32 → (Nat → Int32) → Nat → Int32 → Int32 → Int32 → Int32 → Option (Int32)
  | 0 => fun _ _ _ _ _ _ _ => none
  | n + 1 => fun rows cells cells_n y1 y2 y3 y4 => ifb (rows ≤ y4) (some y3) (ix (y4 * 10) cells_n (ifb ((cells (y4 * 10).toNatClampNeg) < y1) (f_X5_howMany_41 (f_X5_howMany_5 N n) N rows cells cells_n y1 y2 y3 y4) (ifb (y2 < (cells (y4 * 10).toNatClampNeg)) (f_X5_howMany_41 (f_X5_howMany_5 N n) N rows cells cells_n y1 y2 y3 y4) (f_X5_howMany_41 (f_X5_howMany_5 N n) N rows cells cells_n y1 y2 (y3 + 1) y4))))
def f_X5_howMany (N : Nat) (rows : Int32) (cells : Nat → Int32) (cells_n : Nat) (x1 : Int32) (x2 : Int32) : Option (Int32) := f_X5_howMany_5 N N rows cells cells_n x1 x2 0 0
variable {p : Program} {l : Launch} {e : Env} {s : State} {m : MethodId} {below : List Frame} {meth : Method} {c : Code} {args : Array Value} {x0 : Cond} {D : va_G} {cI cJ cB : ClassId} {sz N : Nat} {ws0 : va_W} {a0 a_cells : Nat} {rows : Int32} {cells : Nat → Int32} {cells_n : Nat} {z : Int32}
set_option maxHeartbeats 4000000 in
set_option maxRecDepth 100000 in
theorem w_X5_howMany_41 (CX : Cx p m c cX5_howMany 6 s args x0 RX5 meth (some .int)) (hK : va_K D vwCl (ty0 cI cJ cB) s) (hsz : s.heap.size = sz) {K5 : Int32 → (Nat → Int32) → Nat → Int32 → Int32 → Int32 → Int32 → Option (Int32)} (hK5 : ∀ (y1 : Int32) (y2 : Int32) (y3 : Int32) (y4 : Int32) (H : Heap) (locs : List Loc) (ls : Array Slot), K5 rows cells cells_n y1 y2 y3 y4 = some z → va_P D vwCl (ws_X5_howMany cI cJ cB a0 a_cells rows cells cells_n) H → va_D (va_A ws0 sz) (ws_X5_howMany cI cJ cB a0 a_cells rows cells cells_n) → va_S (va_A ws0 sz) s.heap H locs → lv_has ls 6 [(0, .ref a0), (1, .int y1), (2, .int y2), (3, .int y3), (4, .int y4)] → W p l e rm_X5_howMany s m args below meth c H locs 0 0 (MQ below (gQ D sz ws0 (ws_X5_howMany cI cJ cB a0 a_cells rows cells cells_n) (some (.int z))) args s 0 0 (va_A ws0 sz)) (F0 m 5 ls [])) : ∀ (y1 : Int32) (y2 : Int32) (y3 : Int32) (y4 : Int32) (H : Heap) (locs : List Loc) (ls : Array Slot), f_X5_howMany_41 K5 N rows cells cells_n y1 y2 y3 y4 = some z → va_P D vwCl (ws_X5_howMany cI cJ cB a0 a_cells rows cells cells_n) H → va_D (va_A ws0 sz) (ws_X5_howMany cI cJ cB a0 a_cells rows cells cells_n) → va_S (va_A ws0 sz) s.heap H locs → lv_has ls 6 [(0, .ref a0), (1, .int y1), (2, .int y2), (3, .int y3), (4, .int y4)] → W p l e rm_X5_howMany s m args below meth c H locs 0 0 (MQ below (gQ D sz ws0 (ws_X5_howMany cI cJ cB a0 a_cells rows cells cells_n) (some (.int z))) args s 0 0 (va_A ws0 sz)) (F0 m 41 ls []) := by
  obtain ⟨F, hr, hlk, hNw⟩ := id CX
  have hx := F.1
  have hb := F.2.1
  have hown := F.2.2.2.1
  have hA : ∀ q, s.heap.size ≤ q → va_A ws0 sz q := fun q hq => Or.inr (hsz ▸ hq)
  intro y1 y2 y3 y4 H locs ls h hP hD hS hl
  unfold f_X5_howMany_41 at h
  refine lv_iinc (v := y4 + 1) (lv' := [(4, .int (y4 + 1)), (0, .ref a0), (1, .int y1), (2, .int y2), (3, .int y3)]) hx hb dX5_howMany_41 hl (k := 4) rfl rfl (by decide) rfl (fun ls hl => ?_)
  refine lv_goto (tgt := 5) hx hb dX5_howMany_44 (by decide) ?_
  exact hK5 y1 y2 y3 (y4 + 1) _ _ _ h hP hD hS (lv_sub hl [1, 2, 3, 4, 0] rfl)
set_option maxHeartbeats 4000000 in
set_option maxRecDepth 100000 in
theorem w_X5_howMany_5 (CX : Cx p m c cX5_howMany 6 s args x0 RX5 meth (some .int)) (hK : va_K D vwCl (ty0 cI cJ cB) s) (hsz : s.heap.size = sz) : ∀ (n : Nat), ∀ (y1 : Int32) (y2 : Int32) (y3 : Int32) (y4 : Int32) (H : Heap) (locs : List Loc) (ls : Array Slot), f_X5_howMany_5 N n rows cells cells_n y1 y2 y3 y4 = some z → va_P D vwCl (ws_X5_howMany cI cJ cB a0 a_cells rows cells cells_n) H → va_D (va_A ws0 sz) (ws_X5_howMany cI cJ cB a0 a_cells rows cells cells_n) → va_S (va_A ws0 sz) s.heap H locs → lv_has ls 6 [(0, .ref a0), (1, .int y1), (2, .int y2), (3, .int y3), (4, .int y4)] → W p l e rm_X5_howMany s m args below meth c H locs 0 0 (MQ below (gQ D sz ws0 (ws_X5_howMany cI cJ cB a0 a_cells rows cells cells_n) (some (.int z))) args s 0 0 (va_A ws0 sz)) (F0 m 5 ls []) := by
  obtain ⟨F, hr, hlk, hNw⟩ := id CX
  have hx := F.1
  have hb := F.2.1
  have hown := F.2.2.2.1
  have hA : ∀ q, s.heap.size ≤ q → va_A ws0 sz q := fun q hq => Or.inr (hsz ▸ hq)
  intro n
  induction n with
  | zero =>
    intro y1 y2 y3 y4 H locs ls h
    cases h
  | succ n ih =>
    intro y1 y2 y3 y4 H locs ls h hP hD hS hl
    unfold f_X5_howMany_5 at h
    refine lv_iload hx hb dX5_howMany_5 (lv_at hl 4 rfl) ?_
    refine lv_aload_n hx hb dX5_howMany_7 rfl (lv_at hl 0 rfl) ?_
    refine r_get F hK hP 0 1 rfl inW_X5 wm_126 rfl (by decide) rfl dX5_howMany_8 ?_
    refine lv_icmp_ge (tgt := 47) hx hb dX5_howMany_11 (by decide) (fun c11 => ?_) (fun c11 => ?_)
    · have h := o_t c11 h
      refine lv_iload_n hx hb dX5_howMany_47 rfl (lv_at hl 3 rfl) ?_
      obtain rfl := Option.some.inj h
      exact r_ret (v := y3) F hr hlk rfl dX5_howMany_48 hsz hP hD hS
    · have h := o_f c11 h
      refine lv_aload_n hx hb dX5_howMany_14 rfl (lv_at hl 0 rfl) ?_
      refine r_get F hK hP 0 0 rfl inW_X5 wm_125 rfl (by decide) rfl dX5_howMany_15 ?_
      refine lv_iload hx hb dX5_howMany_18 (lv_at hl 4 rfl) ?_
      refine lv_bipush (v := 10) hx hb dX5_howMany_20 (by decide) ?_
      refine lv_imul hx hb dX5_howMany_22 ?_
      obtain ⟨hi23, h⟩ := o_ix h
      refine va_iald hx hb hK hP 1 0 rfl rfl hi23 dX5_howMany_23 ?_
      refine lv_istore (lv' := [(5, .int (cells (y4 * 10).toNatClampNeg)), (0, .ref a0), (1, .int y1), (2, .int y2), (3, .int y3), (4, .int y4)]) hx hb dX5_howMany_24 hl (by decide) rfl (fun ls hl => ?_)
      refine lv_iload hx hb dX5_howMany_26 (lv_at hl 0 rfl) ?_
      refine lv_iload_n hx hb dX5_howMany_28 rfl (lv_at hl 2 rfl) ?_
      refine lv_icmp_lt (tgt := 41) hx hb dX5_howMany_29 (by decide) (fun c29 => ?_) (fun c29 => ?_)
      · have h := o_t c29 h
        exact w_X5_howMany_41 CX hK hsz (hK5 := ih) y1 y2 y3 y4 _ _ _ h hP hD hS (lv_sub hl [1, 2, 3, 4, 5] rfl)
      · have h := o_f c29 h
        refine lv_iload hx hb dX5_howMany_32 (lv_at hl 0 rfl) ?_
        refine lv_iload_n hx hb dX5_howMany_34 rfl (lv_at hl 3 rfl) ?_
        refine lv_icmp_gt (tgt := 41) hx hb dX5_howMany_35 (by decide) (fun c35 => ?_) (fun c35 => ?_)
        · have h := o_t c35 h
          exact w_X5_howMany_41 CX hK hsz (hK5 := ih) y1 y2 y3 y4 _ _ _ h hP hD hS (lv_sub hl [1, 2, 3, 4, 5] rfl)
        · have h := o_f c35 h
          refine lv_iinc (v := y3 + 1) (lv' := [(3, .int (y3 + 1)), (5, .int (cells (y4 * 10).toNatClampNeg)), (0, .ref a0), (1, .int y1), (2, .int y2), (4, .int y4)]) hx hb dX5_howMany_38 hl (k := 4) rfl rfl (by decide) rfl (fun ls hl => ?_)
          exact w_X5_howMany_41 CX hK hsz (hK5 := ih) y1 y2 (y3 + 1) y4 _ _ _ h hP hD hS (lv_sub hl [2, 3, 4, 0, 5] rfl)
end G_X5_howMany
set_option maxHeartbeats 4000000 in
set_option maxRecDepth 100000 in
theorem c_X5_howMany (l : Launch) (D : va_G) (cI cJ cB : ClassId) (a0 a_cells : Nat) (sz : Nat) (rows : Int32) (cells : Nat → Int32) (cells_n : Nat) (x1 : Int32) (x2 : Int32) (N : Nat) {z : Int32} (h : f_X5_howMany N rows cells cells_n x1 x2 = some z) : Mg l yX5_howMany cX5_howMany 6 (some .int) rm_X5_howMany D (ty0 cI cJ cB) [.ref a0, .int x1, .int x2] sz (ws_X5_howMany cI cJ cB a0 a_cells rows cells cells_n) (some (.int z)) (ws_X5_howMany cI cJ cB a0 a_cells rows cells cells_n) := by
  refine Mg.of (by decide) (Nat.le_of_ble_eq_true rfl) ?_
  intro p e s m below meth c CX hK hsz hP hD ls hl
  have CX : Cx p m c cX5_howMany 6 s ([.ref a0, .int x1, .int x2] : List Value).toArray (Cond.code yX5_howMany cX5_howMany 6 (some .int)) RX5 meth (some .int) := CX
  obtain ⟨F, hr, hlk, hNw⟩ := id CX
  have hx := F.1
  have hb := F.2.1
  have hown := F.2.2.2.1
  have hl : lv_has ls 6 [(0, .ref a0), (1, .int x1), (2, .int x2)] := hl
  have hS : va_S (va_A (ws_X5_howMany cI cJ cB a0 a_cells rows cells cells_n) sz) s.heap s.heap [] := va_S.rf
  have hA : ∀ q, s.heap.size ≤ q → va_A (ws_X5_howMany cI cJ cB a0 a_cells rows cells cells_n) sz q := fun q hq => Or.inr (hsz ▸ hq)
  unfold f_X5_howMany at h
  refine lv_iconst (v := 0) hx hb dX5_howMany_0 (by decide) ?_
  refine lv_istore_n (lv' := [(3, .int 0), (0, .ref a0), (1, .int x1), (2, .int x2)]) hx hb dX5_howMany_1 rfl hl (by decide) rfl (fun ls hl => ?_)
  refine lv_iconst (v := 0) hx hb dX5_howMany_2 (by decide) ?_
  refine lv_istore (lv' := [(4, .int 0), (3, .int 0), (0, .ref a0), (1, .int x1), (2, .int x2)]) hx hb dX5_howMany_3 hl (by decide) rfl (fun ls hl => ?_)
  exact w_X5_howMany_5 CX hK hsz N x1 x2 0 0 _ _ _ h hP hD hS (lv_sub hl [2, 3, 4, 1, 0] rfl)
section G_X5_measure
abbrev ws_X5_measure (cI cJ cB : ClassId) (a0 a_cells a_p1 : Nat) (rows : Int32) (cells : Nat → Int32) (cells_n : Nat) (p1 : Nat → Int32) (p1_n : Nat) : va_W := [(a0, .inr (7, [.ref a_cells, .int rows])), (a_cells, .inl (cI, cells_n, .inl cells)), (a_p1, .inl (cI, p1_n, .inl p1))]
abbrev rm_X5_measure : Room := { frames := 1, cells := 0, slots := 0, locals := 23 }
def f_X5_measure_93 (K12 : Int32 → (Nat → Int32) → Nat → (Nat → Int32) → Nat → Int32 → Int32 → Option ((Nat → Int32))) (N : Nat) (rows : Int32) (cells : Nat → Int32) (cells_n : Nat) (p1 : Nat → Int32) (p1_n : Nat) (y2 : Int32) (y3 : Int32) : Option ((Nat → Int32)) := K12 rows cells cells_n p1 p1_n y2 (y3 + 1)
def f_X5_measure_45 (K12 : Int32 → (Nat → Int32) → Nat → (Nat → Int32) → Nat → Int32 → Int32 → Option ((Nat → Int32))) (N : Nat) (rows : Int32) (cells : Nat → Int32) (cells_n : Nat) (p1 : Nat → Int32) (p1_n : Nat) (y2 : Int32) (y3 : Int32) : Option ((Nat → Int32)) := ix y3 p1_n (f_X5_measure_93 K12 N rows cells cells_n (upd p1 y3.toNatClampNeg y3) p1_n y2 y3)
def f_X5_measure_92 (K12 : Int32 → (Nat → Int32) → Nat → (Nat → Int32) → Nat → Int32 → Int32 → Option ((Nat → Int32))) (N : Nat) (rows : Int32) (cells : Nat → Int32) (cells_n : Nat) (p1 : Nat → Int32) (p1_n : Nat) (y2 : Int32) (y3 : Int32) (s1 : Int32) (s2 : Int32) : Option ((Nat → Int32)) := ix s1 p1_n (f_X5_measure_93 K12 N rows cells cells_n (upd p1 s1.toNatClampNeg s2) p1_n y2 y3)
def f_X5_measure_12 (N : Nat) : Nat → Int32 → (Nat → Int32) → Nat → (Nat → Int32) → Nat → Int32 → Int32 → Option ((Nat → Int32))
  | 0 => fun _ _ _ _ _ _ _ => none
  | n + 1 => fun rows cells cells_n p1 p1_n y2 y3 => ifb (y2 ≤ y3) (some p1) (ix (y3 * 10) cells_n (ifb ((cells (y3 * 10).toNatClampNeg) < 6) (f_X5_measure_45 (f_X5_measure_12 N n) N rows cells cells_n p1 p1_n y2 y3) (ifb (0 ≤ (y3 - 1)) (ifb ((cells (y3 * 10).toNatClampNeg) < 8) (ix (y3 - 1) p1_n (ifb (((p1 (y3 - 1).toNatClampNeg) - 1) < 0) (f_X5_measure_92 (f_X5_measure_12 N n) N rows cells cells_n p1 p1_n y2 y3 y3 0) (ix ((p1 (y3 - 1).toNatClampNeg) - 1) p1_n (f_X5_measure_92 (f_X5_measure_12 N n) N rows cells cells_n p1 p1_n y2 y3 y3 (p1 ((p1 (y3 - 1).toNatClampNeg) - 1).toNatClampNeg))))) (ix (y3 - 1) p1_n (ix y3 p1_n (f_X5_measure_93 (f_X5_measure_12 N n) N rows cells cells_n (upd p1 y3.toNatClampNeg (p1 (y3 - 1).toNatClampNeg)) p1_n y2 y3)))) (f_X5_measure_45 (f_X5_measure_12 N n) N rows cells cells_n p1 p1_n y2 y3))))
def f_X5_measure (N : Nat) (rows : Int32) (cells : Nat → Int32) (cells_n : Nat) (p1 : Nat → Int32) (p1_n : Nat) : Option ((Nat → Int32)) := f_X5_measure_12 N N rows cells cells_n p1 p1_n (jmin rows (Int32.ofNat p1_n)) 0
variable {p : Program} {l : Launch} {e : Env} {s : State} {m : MethodId} {below : List Frame} {meth : Method} {c : Code} {args : Array Value} {x0 : Cond} {D : va_G} {cI cJ cB : ClassId} {sz N : Nat} {ws0 : va_W} {a0 a_cells a_p1 : Nat} {rows : Int32} {cells : Nat → Int32} {cells_n : Nat} {p1_n : Nat} {z : (Nat → Int32)}
set_option maxHeartbeats 4000000 in
set_option maxRecDepth 100000 in
theorem w_X5_measure_93 (CX : Cx p m c cX5_measure 7 s args x0 RX5 meth none) (hK : va_K D vwCl (ty0 cI cJ cB) s) (hsz : s.heap.size = sz) {K12 : Int32 → (Nat → Int32) → Nat → (Nat → Int32) → Nat → Int32 → Int32 → Option ((Nat → Int32))} (hK12 : ∀ (p1 : Nat → Int32) (y2 : Int32) (y3 : Int32) (H : Heap) (locs : List Loc) (ls : Array Slot), K12 rows cells cells_n p1 p1_n y2 y3 = some z → va_P D vwCl (ws_X5_measure cI cJ cB a0 a_cells a_p1 rows cells cells_n p1 p1_n) H → va_D (va_A ws0 sz) (ws_X5_measure cI cJ cB a0 a_cells a_p1 rows cells cells_n p1 p1_n) → va_S (va_A ws0 sz) s.heap H locs → lv_has ls 7 [(0, .ref a0), (1, .ref a_p1), (2, .int y2), (3, .int y3)] → W p l e rm_X5_measure s m args below meth c H locs 0 0 (MQ below (gQ D sz ws0 (ws_X5_measure cI cJ cB a0 a_cells a_p1 rows cells cells_n z p1_n) none) args s 0 0 (va_A ws0 sz)) (F0 m 12 ls [])) : ∀ (p1 : Nat → Int32) (y2 : Int32) (y3 : Int32) (H : Heap) (locs : List Loc) (ls : Array Slot), f_X5_measure_93 K12 N rows cells cells_n p1 p1_n y2 y3 = some z → va_P D vwCl (ws_X5_measure cI cJ cB a0 a_cells a_p1 rows cells cells_n p1 p1_n) H → va_D (va_A ws0 sz) (ws_X5_measure cI cJ cB a0 a_cells a_p1 rows cells cells_n p1 p1_n) → va_S (va_A ws0 sz) s.heap H locs → lv_has ls 7 [(0, .ref a0), (1, .ref a_p1), (2, .int y2), (3, .int y3)] → W p l e rm_X5_measure s m args below meth c H locs 0 0 (MQ below (gQ D sz ws0 (ws_X5_measure cI cJ cB a0 a_cells a_p1 rows cells cells_n z p1_n) none) args s 0 0 (va_A ws0 sz)) (F0 m 93 ls []) := by
  obtain ⟨F, hr, hlk, hNw⟩ := id CX
  have hx := F.1
  have hb := F.2.1
  have hown := F.2.2.2.1
  have hA : ∀ q, s.heap.size ≤ q → va_A ws0 sz q := fun q hq => Or.inr (hsz ▸ hq)
  intro p1 y2 y3 H locs ls h hP hD hS hl
  unfold f_X5_measure_93 at h
  refine lv_iinc (v := y3 + 1) (lv' := [(3, .int (y3 + 1)), (0, .ref a0), (1, .ref a_p1), (2, .int y2)]) hx hb dX5_measure_93 hl (k := 3) rfl rfl (by decide) rfl (fun ls hl => ?_)
  refine lv_goto (tgt := 12) hx hb dX5_measure_96 (by decide) ?_
  exact hK12 p1 y2 (y3 + 1) _ _ _ h hP hD hS (lv_sub hl [1, 2, 3, 0] rfl)
set_option maxHeartbeats 4000000 in
set_option maxRecDepth 100000 in
theorem w_X5_measure_45 (CX : Cx p m c cX5_measure 7 s args x0 RX5 meth none) (hK : va_K D vwCl (ty0 cI cJ cB) s) (hsz : s.heap.size = sz) {K12 : Int32 → (Nat → Int32) → Nat → (Nat → Int32) → Nat → Int32 → Int32 → Option ((Nat → Int32))} (hK12 : ∀ (p1 : Nat → Int32) (y2 : Int32) (y3 : Int32) (H : Heap) (locs : List Loc) (ls : Array Slot), K12 rows cells cells_n p1 p1_n y2 y3 = some z → va_P D vwCl (ws_X5_measure cI cJ cB a0 a_cells a_p1 rows cells cells_n p1 p1_n) H → va_D (va_A ws0 sz) (ws_X5_measure cI cJ cB a0 a_cells a_p1 rows cells cells_n p1 p1_n) → va_S (va_A ws0 sz) s.heap H locs → lv_has ls 7 [(0, .ref a0), (1, .ref a_p1), (2, .int y2), (3, .int y3)] → W p l e rm_X5_measure s m args below meth c H locs 0 0 (MQ below (gQ D sz ws0 (ws_X5_measure cI cJ cB a0 a_cells a_p1 rows cells cells_n z p1_n) none) args s 0 0 (va_A ws0 sz)) (F0 m 12 ls [])) : ∀ (p1 : Nat → Int32) (y2 : Int32) (y3 : Int32) (H : Heap) (locs : List Loc) (ls : Array Slot), f_X5_measure_45 K12 N rows cells cells_n p1 p1_n y2 y3 = some z → va_P D vwCl (ws_X5_measure cI cJ cB a0 a_cells a_p1 rows cells cells_n p1 p1_n) H → va_D (va_A ws0 sz) (ws_X5_measure cI cJ cB a0 a_cells a_p1 rows cells cells_n p1 p1_n) → va_S (va_A ws0 sz) s.heap H locs → lv_has ls 7 [(0, .ref a0), (1, .ref a_p1), (2, .int y2), (3, .int y3)] → W p l e rm_X5_measure s m args below meth c H locs 0 0 (MQ below (gQ D sz ws0 (ws_X5_measure cI cJ cB a0 a_cells a_p1 rows cells cells_n z p1_n) none) args s 0 0 (va_A ws0 sz)) (F0 m 45 ls []) := by
  obtain ⟨F, hr, hlk, hNw⟩ := id CX
  have hx := F.1
  have hb := F.2.1
  have hown := F.2.2.2.1
  have hA : ∀ q, s.heap.size ≤ q → va_A ws0 sz q := fun q hq => Or.inr (hsz ▸ hq)
  intro p1 y2 y3 H locs ls h hP hD hS hl
  unfold f_X5_measure_45 at h
  refine lv_aload_n hx hb dX5_measure_45 rfl (lv_at hl 1 rfl) ?_
  refine lv_iload_n hx hb dX5_measure_46 rfl (lv_at hl 3 rfl) ?_
  refine lv_iload_n hx hb dX5_measure_47 rfl (lv_at hl 3 rfl) ?_
  obtain ⟨hi48, h⟩ := o_ix h
  refine r_iast (wn := (ws_X5_measure cI cJ cB a0 a_cells a_p1 rows cells cells_n (upd p1 y3.toNatClampNeg y3) p1_n)) F hK hP hD hS 2 0 hi48 rfl rfl rfl dX5_measure_48 (fun H locs hP hD hS => ?_)
  refine lv_goto (tgt := 93) hx hb dX5_measure_49 (by decide) ?_
  exact w_X5_measure_93 CX hK hsz (hK12 := hK12) (upd p1 y3.toNatClampNeg y3) y2 y3 _ _ _ h hP hD hS (lv_sub hl [0, 1, 2, 3] rfl)
set_option maxHeartbeats 4000000 in
set_option maxRecDepth 100000 in
theorem w_X5_measure_92 (CX : Cx p m c cX5_measure 7 s args x0 RX5 meth none) (hK : va_K D vwCl (ty0 cI cJ cB) s) (hsz : s.heap.size = sz) {K12 : Int32 → (Nat → Int32) → Nat → (Nat → Int32) → Nat → Int32 → Int32 → Option ((Nat → Int32))} (hK12 : ∀ (p1 : Nat → Int32) (y2 : Int32) (y3 : Int32) (H : Heap) (locs : List Loc) (ls : Array Slot), K12 rows cells cells_n p1 p1_n y2 y3 = some z → va_P D vwCl (ws_X5_measure cI cJ cB a0 a_cells a_p1 rows cells cells_n p1 p1_n) H → va_D (va_A ws0 sz) (ws_X5_measure cI cJ cB a0 a_cells a_p1 rows cells cells_n p1 p1_n) → va_S (va_A ws0 sz) s.heap H locs → lv_has ls 7 [(0, .ref a0), (1, .ref a_p1), (2, .int y2), (3, .int y3)] → W p l e rm_X5_measure s m args below meth c H locs 0 0 (MQ below (gQ D sz ws0 (ws_X5_measure cI cJ cB a0 a_cells a_p1 rows cells cells_n z p1_n) none) args s 0 0 (va_A ws0 sz)) (F0 m 12 ls [])) : ∀ (p1 : Nat → Int32) (y2 : Int32) (y3 : Int32) (s1 : Int32) (s2 : Int32) (H : Heap) (locs : List Loc) (ls : Array Slot), f_X5_measure_92 K12 N rows cells cells_n p1 p1_n y2 y3 s1 s2 = some z → va_P D vwCl (ws_X5_measure cI cJ cB a0 a_cells a_p1 rows cells cells_n p1 p1_n) H → va_D (va_A ws0 sz) (ws_X5_measure cI cJ cB a0 a_cells a_p1 rows cells cells_n p1 p1_n) → va_S (va_A ws0 sz) s.heap H locs → lv_has ls 7 [(0, .ref a0), (1, .ref a_p1), (2, .int y2), (3, .int y3)] → W p l e rm_X5_measure s m args below meth c H locs 0 0 (MQ below (gQ D sz ws0 (ws_X5_measure cI cJ cB a0 a_cells a_p1 rows cells cells_n z p1_n) none) args s 0 0 (va_A ws0 sz)) (F0 m 92 ls [.int s2, .int s1, .ref a_p1]) := by
  obtain ⟨F, hr, hlk, hNw⟩ := id CX
  have hx := F.1
  have hb := F.2.1
  have hown := F.2.2.2.1
  have hA : ∀ q, s.heap.size ≤ q → va_A ws0 sz q := fun q hq => Or.inr (hsz ▸ hq)
  intro p1 y2 y3 s1 s2 H locs ls h hP hD hS hl
  unfold f_X5_measure_92 at h
  obtain ⟨hi92, h⟩ := o_ix h
  refine r_iast (wn := (ws_X5_measure cI cJ cB a0 a_cells a_p1 rows cells cells_n (upd p1 s1.toNatClampNeg s2) p1_n)) F hK hP hD hS 2 0 hi92 rfl rfl rfl dX5_measure_92 (fun H locs hP hD hS => ?_)
  exact w_X5_measure_93 CX hK hsz (hK12 := hK12) (upd p1 s1.toNatClampNeg s2) y2 y3 _ _ _ h hP hD hS (lv_sub hl [0, 1, 2, 3] rfl)
set_option maxHeartbeats 4000000 in
set_option maxRecDepth 100000 in
theorem w_X5_measure_12 (CX : Cx p m c cX5_measure 7 s args x0 RX5 meth none) (hK : va_K D vwCl (ty0 cI cJ cB) s) (hsz : s.heap.size = sz) : ∀ (n : Nat), ∀ (p1 : Nat → Int32) (y2 : Int32) (y3 : Int32) (H : Heap) (locs : List Loc) (ls : Array Slot), f_X5_measure_12 N n rows cells cells_n p1 p1_n y2 y3 = some z → va_P D vwCl (ws_X5_measure cI cJ cB a0 a_cells a_p1 rows cells cells_n p1 p1_n) H → va_D (va_A ws0 sz) (ws_X5_measure cI cJ cB a0 a_cells a_p1 rows cells cells_n p1 p1_n) → va_S (va_A ws0 sz) s.heap H locs → lv_has ls 7 [(0, .ref a0), (1, .ref a_p1), (2, .int y2), (3, .int y3)] → W p l e rm_X5_measure s m args below meth c H locs 0 0 (MQ below (gQ D sz ws0 (ws_X5_measure cI cJ cB a0 a_cells a_p1 rows cells cells_n z p1_n) none) args s 0 0 (va_A ws0 sz)) (F0 m 12 ls []) := by
  obtain ⟨F, hr, hlk, hNw⟩ := id CX
  have hx := F.1
  have hb := F.2.1
  have hown := F.2.2.2.1
  have hA : ∀ q, s.heap.size ≤ q → va_A ws0 sz q := fun q hq => Or.inr (hsz ▸ hq)
  intro n
  induction n with
  | zero =>
    intro p1 y2 y3 H locs ls h
    cases h
  | succ n ih =>
    intro p1 y2 y3 H locs ls h hP hD hS hl
    unfold f_X5_measure_12 at h
    refine lv_iload_n hx hb dX5_measure_12 rfl (lv_at hl 3 rfl) ?_
    refine lv_iload_n hx hb dX5_measure_13 rfl (lv_at hl 2 rfl) ?_
    refine lv_icmp_ge (tgt := 99) hx hb dX5_measure_14 (by decide) (fun c14 => ?_) (fun c14 => ?_)
    · have h := o_t c14 h
      obtain rfl := Option.some.inj h
      exact r_vret F hr hlk dX5_measure_99 hsz hP hD hS
    · have h := o_f c14 h
      refine lv_aload_n hx hb dX5_measure_17 rfl (lv_at hl 0 rfl) ?_
      refine r_get F hK hP 0 0 rfl inW_X5 wm_125 rfl (by decide) rfl dX5_measure_18 ?_
      refine lv_iload_n hx hb dX5_measure_21 rfl (lv_at hl 3 rfl) ?_
      refine lv_bipush (v := 10) hx hb dX5_measure_22 (by decide) ?_
      refine lv_imul hx hb dX5_measure_24 ?_
      obtain ⟨hi25, h⟩ := o_ix h
      refine va_iald hx hb hK hP 1 0 rfl rfl hi25 dX5_measure_25 ?_
      refine lv_istore (lv' := [(4, .int (cells (y3 * 10).toNatClampNeg)), (0, .ref a0), (1, .ref a_p1), (2, .int y2), (3, .int y3)]) hx hb dX5_measure_26 hl (by decide) rfl (fun ls hl => ?_)
      refine lv_iload_n hx hb dX5_measure_28 rfl (lv_at hl 4 rfl) ?_
      refine lv_iconst (v := 1) hx hb dX5_measure_29 (by decide) ?_
      refine lv_isub hx hb dX5_measure_30 ?_
      refine lv_istore (lv' := [(5, .int (y3 - 1)), (4, .int (cells (y3 * 10).toNatClampNeg)), (0, .ref a0), (1, .ref a_p1), (2, .int y2), (3, .int y3)]) hx hb dX5_measure_31 hl (by decide) rfl (fun ls hl => ?_)
      refine lv_iload hx hb dX5_measure_33 (lv_at hl 1 rfl) ?_
      refine lv_bipush (v := 6) hx hb dX5_measure_35 (by decide) ?_
      refine lv_icmp_lt (tgt := 45) hx hb dX5_measure_37 (by decide) (fun c37 => ?_) (fun c37 => ?_)
      · have h := o_t c37 h
        exact w_X5_measure_45 CX hK hsz (hK12 := ih) p1 y2 y3 _ _ _ h hP hD hS (lv_sub hl [2, 3, 4, 5] rfl)
      · have h := o_f c37 h
        refine lv_iload hx hb dX5_measure_40 (lv_at hl 0 rfl) ?_
        refine lv_if_ge (tgt := 52) hx hb dX5_measure_42 (by decide) (fun c42 => ?_) (fun c42 => ?_)
        · have h := o_t c42 h
          refine lv_iload hx hb dX5_measure_52 (lv_at hl 1 rfl) ?_
          refine lv_bipush (v := 8) hx hb dX5_measure_54 (by decide) ?_
          refine lv_icmp_lt (tgt := 69) hx hb dX5_measure_56 (by decide) (fun c56 => ?_) (fun c56 => ?_)
          · have h := o_t c56 h
            refine lv_aload_n hx hb dX5_measure_69 rfl (lv_at hl 3 rfl) ?_
            refine lv_iload hx hb dX5_measure_70 (lv_at hl 0 rfl) ?_
            obtain ⟨hi72, h⟩ := o_ix h
            refine va_iald hx hb hK hP 2 0 rfl rfl hi72 dX5_measure_72 ?_
            refine lv_iconst (v := 1) hx hb dX5_measure_73 (by decide) ?_
            refine lv_isub hx hb dX5_measure_74 ?_
            refine lv_istore (lv' := [(6, .int ((p1 (y3 - 1).toNatClampNeg) - 1)), (5, .int (y3 - 1)), (4, .int (cells (y3 * 10).toNatClampNeg)), (0, .ref a0), (1, .ref a_p1), (2, .int y2), (3, .int y3)]) hx hb dX5_measure_75 hl (by decide) rfl (fun ls hl => ?_)
            refine lv_aload_n hx hb dX5_measure_77 rfl (lv_at hl 4 rfl) ?_
            refine lv_iload_n hx hb dX5_measure_78 rfl (lv_at hl 6 rfl) ?_
            refine lv_iload hx hb dX5_measure_79 (lv_at hl 0 rfl) ?_
            refine lv_if_lt (tgt := 91) hx hb dX5_measure_81 (by decide) (fun c81 => ?_) (fun c81 => ?_)
            · have h := o_t c81 h
              refine lv_iconst (v := 0) hx hb dX5_measure_91 (by decide) ?_
              exact w_X5_measure_92 CX hK hsz (hK12 := ih) p1 y2 y3 y3 0 _ _ _ h hP hD hS (lv_sub hl [3, 4, 5, 6] rfl)
            · have h := o_f c81 h
              refine lv_aload_n hx hb dX5_measure_84 rfl (lv_at hl 4 rfl) ?_
              refine lv_iload hx hb dX5_measure_85 (lv_at hl 0 rfl) ?_
              obtain ⟨hi87, h⟩ := o_ix h
              refine va_iald hx hb hK hP 2 0 rfl rfl hi87 dX5_measure_87 ?_
              refine lv_goto (tgt := 92) hx hb dX5_measure_88 (by decide) ?_
              exact w_X5_measure_92 CX hK hsz (hK12 := ih) p1 y2 y3 y3 (p1 ((p1 (y3 - 1).toNatClampNeg) - 1).toNatClampNeg) _ _ _ h hP hD hS (lv_sub hl [3, 4, 5, 6] rfl)
          · have h := o_f c56 h
            refine lv_aload_n hx hb dX5_measure_59 rfl (lv_at hl 3 rfl) ?_
            refine lv_iload_n hx hb dX5_measure_60 rfl (lv_at hl 5 rfl) ?_
            refine lv_aload_n hx hb dX5_measure_61 rfl (lv_at hl 3 rfl) ?_
            refine lv_iload hx hb dX5_measure_62 (lv_at hl 0 rfl) ?_
            obtain ⟨hi64, h⟩ := o_ix h
            refine va_iald hx hb hK hP 2 0 rfl rfl hi64 dX5_measure_64 ?_
            obtain ⟨hi65, h⟩ := o_ix h
            refine r_iast (wn := (ws_X5_measure cI cJ cB a0 a_cells a_p1 rows cells cells_n (upd p1 y3.toNatClampNeg (p1 (y3 - 1).toNatClampNeg)) p1_n)) F hK hP hD hS 2 0 hi65 rfl rfl rfl dX5_measure_65 (fun H locs hP hD hS => ?_)
            refine lv_goto (tgt := 93) hx hb dX5_measure_66 (by decide) ?_
            exact w_X5_measure_93 CX hK hsz (hK12 := ih) (upd p1 y3.toNatClampNeg (p1 (y3 - 1).toNatClampNeg)) y2 y3 _ _ _ h hP hD hS (lv_sub hl [2, 3, 4, 5] rfl)
        · have h := o_f c42 h
          exact w_X5_measure_45 CX hK hsz (hK12 := ih) p1 y2 y3 _ _ _ h hP hD hS (lv_sub hl [2, 3, 4, 5] rfl)
end G_X5_measure
set_option maxHeartbeats 4000000 in
set_option maxRecDepth 100000 in
theorem c_X5_measure (l : Launch) (D : va_G) (cI cJ cB : ClassId) (a0 a_cells a_p1 : Nat) (sz : Nat) (rows : Int32) (cells : Nat → Int32) (cells_n : Nat) (p1 : Nat → Int32) (p1_n : Nat) (N : Nat) {z : (Nat → Int32)} (h : f_X5_measure N rows cells cells_n p1 p1_n = some z) : Mg l yX5_measure cX5_measure 7 none rm_X5_measure D (ty0 cI cJ cB) [.ref a0, .ref a_p1] sz (ws_X5_measure cI cJ cB a0 a_cells a_p1 rows cells cells_n p1 p1_n) none (ws_X5_measure cI cJ cB a0 a_cells a_p1 rows cells cells_n z p1_n) := by
  refine Mg.of (by decide) (Nat.le_of_ble_eq_true rfl) ?_
  intro p e s m below meth c CX hK hsz hP hD ls hl
  have CX : Cx p m c cX5_measure 7 s ([.ref a0, .ref a_p1] : List Value).toArray (Cond.code yX5_measure cX5_measure 7 none) RX5 meth none := CX
  obtain ⟨F, hr, hlk, hNw⟩ := id CX
  have hx := F.1
  have hb := F.2.1
  have hown := F.2.2.2.1
  have hl : lv_has ls 7 [(0, .ref a0), (1, .ref a_p1)] := hl
  have hS : va_S (va_A (ws_X5_measure cI cJ cB a0 a_cells a_p1 rows cells cells_n p1 p1_n) sz) s.heap s.heap [] := va_S.rf
  have hA : ∀ q, s.heap.size ≤ q → va_A (ws_X5_measure cI cJ cB a0 a_cells a_p1 rows cells cells_n p1 p1_n) sz q := fun q hq => Or.inr (hsz ▸ hq)
  unfold f_X5_measure at h
  refine lv_aload_n hx hb dX5_measure_0 rfl (lv_at hl 0 rfl) ?_
  refine r_get F hK hP 0 1 rfl inW_X5 wm_126 rfl (by decide) rfl dX5_measure_1 ?_
  refine lv_aload_n hx hb dX5_measure_4 rfl (lv_at hl 1 rfl) ?_
  refine va_alen (v := (Int32.ofNat p1_n)) hx hb hK hP 2 0 rfl rfl rfl dX5_measure_5 ?_
  refine va_mmin hx hb (F.2.2.1.trans hl.1.symm) hown (F.2.2.2.2 _ (q_in wm_785)) (F.2.2.2.2 _ (q_in wm_391)) (F.2.2.2.2 _ (q_in wm_75)) (F.2.2.2.2 _ (q_in wm_392)) (Nat.le_of_ble_eq_true rfl) (Nat.le_of_ble_eq_true rfl) (Nat.zero_le _) (Nat.zero_le _) dX5_measure_6 ?_
  refine lv_istore_n (lv' := [(2, .int (jmin rows (Int32.ofNat p1_n))), (0, .ref a0), (1, .ref a_p1)]) hx hb dX5_measure_9 rfl hl (by decide) rfl (fun ls hl => ?_)
  refine lv_iconst (v := 0) hx hb dX5_measure_10 (by decide) ?_
  refine lv_istore_n (lv' := [(3, .int 0), (2, .int (jmin rows (Int32.ofNat p1_n))), (0, .ref a0), (1, .ref a_p1)]) hx hb dX5_measure_11 rfl hl (by decide) rfl (fun ls hl => ?_)
  exact w_X5_measure_12 CX hK hsz N p1 (jmin rows (Int32.ofNat p1_n)) 0 _ _ _ h hP hD hS (lv_sub hl [2, 3, 1, 0] rfl)
section G_X4_isTrue
abbrev ws_X4_isTrue (cI cJ cB : ClassId) : va_W := []
abbrev rm_X4_isTrue : Room := { frames := 0, cells := 0, slots := 0, locals := 0 }
def f_X4_isTrue_39 (N : Nat) (s0 : Int32) : Option (Int32) := ckp (s0 = 0 ∨ s0 = 1) (some s0)
def f_X4_isTrue_51 (N : Nat) (s0 : Int32) : Option (Int32) := ckp (s0 = 0 ∨ s0 = 1) (some s0)
def f_X4_isTrue_63 (N : Nat) (s0 : Int32) : Option (Int32) := ckp (s0 = 0 ∨ s0 = 1) (some s0)
def f_X4_isTrue_75 (N : Nat) (s0 : Int32) : Option (Int32) := ckp (s0 = 0 ∨ s0 = 1) (some s0)
def f_X4_isTrue (N : Nat) (x1 : Int32) (x2 : Int64) : Option (Int32) := ifb (x1.toInt < 2 ∨ 4 < x1.toInt) (ifb (0 < (lg_cmp x2 0)) (f_X4_isTrue_75 N 0) (f_X4_isTrue_75 N 1)) (ifb (x1 = 2) (ifb ((lg_cmp x2 0) = 0) (f_X4_isTrue_39 N 1) (f_X4_isTrue_39 N 0)) (ifb (x1 = 3) (ifb ((lg_cmp x2 0) = 0) (f_X4_isTrue_51 N 0) (f_X4_isTrue_51 N 1)) (ifb (x1 = 4) (ifb (0 ≤ (lg_cmp x2 0)) (f_X4_isTrue_63 N 0) (f_X4_isTrue_63 N 1)) (none))))
variable {p : Program} {l : Launch} {e : Env} {s : State} {m : MethodId} {below : List Frame} {meth : Method} {c : Code} {args : Array Value} {x0 : Cond} {D : va_G} {cI cJ cB : ClassId} {sz N : Nat} {ws0 : va_W} {z : Int32}
set_option maxHeartbeats 4000000 in
set_option maxRecDepth 100000 in
theorem w_X4_isTrue_39 (CX : Cx p m c cX4_isTrue 3 s args x0 RX4 meth (some .boolean)) (hK : va_K D vwCl (ty0 cI cJ cB) s) (hsz : s.heap.size = sz) : ∀ (s0 : Int32) (H : Heap) (locs : List Loc) (ls : Array Slot), f_X4_isTrue_39 N s0 = some z → va_P D vwCl (ws_X4_isTrue cI cJ cB) H → va_D (va_A ws0 sz) (ws_X4_isTrue cI cJ cB) → va_S (va_A ws0 sz) s.heap H locs → lv_has ls 3 [] → W p l e rm_X4_isTrue s m args below meth c H locs 0 0 (MQ below (gQ D sz ws0 (ws_X4_isTrue cI cJ cB) (some (.int z))) args s 0 0 (va_A ws0 sz)) (F0 m 39 ls [.int s0]) := by
  obtain ⟨F, hr, hlk, hNw⟩ := id CX
  have hx := F.1
  have hb := F.2.1
  have hown := F.2.2.2.1
  have hA : ∀ q, s.heap.size ≤ q → va_A ws0 sz q := fun q hq => Or.inr (hsz ▸ hq)
  intro s0 H locs ls h hP hD hS hl
  unfold f_X4_isTrue_39 at h
  obtain ⟨hc39, h⟩ := o_c h
  obtain rfl := Option.some.inj h
  exact r_ret (v := s0) F hr hlk (nb01 hc39) dX4_isTrue_39 hsz hP hD hS
set_option maxHeartbeats 4000000 in
set_option maxRecDepth 100000 in
theorem w_X4_isTrue_51 (CX : Cx p m c cX4_isTrue 3 s args x0 RX4 meth (some .boolean)) (hK : va_K D vwCl (ty0 cI cJ cB) s) (hsz : s.heap.size = sz) : ∀ (s0 : Int32) (H : Heap) (locs : List Loc) (ls : Array Slot), f_X4_isTrue_51 N s0 = some z → va_P D vwCl (ws_X4_isTrue cI cJ cB) H → va_D (va_A ws0 sz) (ws_X4_isTrue cI cJ cB) → va_S (va_A ws0 sz) s.heap H locs → lv_has ls 3 [] → W p l e rm_X4_isTrue s m args below meth c H locs 0 0 (MQ below (gQ D sz ws0 (ws_X4_isTrue cI cJ cB) (some (.int z))) args s 0 0 (va_A ws0 sz)) (F0 m 51 ls [.int s0]) := by
  obtain ⟨F, hr, hlk, hNw⟩ := id CX
  have hx := F.1
  have hb := F.2.1
  have hown := F.2.2.2.1
  have hA : ∀ q, s.heap.size ≤ q → va_A ws0 sz q := fun q hq => Or.inr (hsz ▸ hq)
  intro s0 H locs ls h hP hD hS hl
  unfold f_X4_isTrue_51 at h
  obtain ⟨hc51, h⟩ := o_c h
  obtain rfl := Option.some.inj h
  exact r_ret (v := s0) F hr hlk (nb01 hc51) dX4_isTrue_51 hsz hP hD hS
set_option maxHeartbeats 4000000 in
set_option maxRecDepth 100000 in
theorem w_X4_isTrue_63 (CX : Cx p m c cX4_isTrue 3 s args x0 RX4 meth (some .boolean)) (hK : va_K D vwCl (ty0 cI cJ cB) s) (hsz : s.heap.size = sz) : ∀ (s0 : Int32) (H : Heap) (locs : List Loc) (ls : Array Slot), f_X4_isTrue_63 N s0 = some z → va_P D vwCl (ws_X4_isTrue cI cJ cB) H → va_D (va_A ws0 sz) (ws_X4_isTrue cI cJ cB) → va_S (va_A ws0 sz) s.heap H locs → lv_has ls 3 [] → W p l e rm_X4_isTrue s m args below meth c H locs 0 0 (MQ below (gQ D sz ws0 (ws_X4_isTrue cI cJ cB) (some (.int z))) args s 0 0 (va_A ws0 sz)) (F0 m 63 ls [.int s0]) := by
  obtain ⟨F, hr, hlk, hNw⟩ := id CX
  have hx := F.1
  have hb := F.2.1
  have hown := F.2.2.2.1
  have hA : ∀ q, s.heap.size ≤ q → va_A ws0 sz q := fun q hq => Or.inr (hsz ▸ hq)
  intro s0 H locs ls h hP hD hS hl
  unfold f_X4_isTrue_63 at h
  obtain ⟨hc63, h⟩ := o_c h
  obtain rfl := Option.some.inj h
  exact r_ret (v := s0) F hr hlk (nb01 hc63) dX4_isTrue_63 hsz hP hD hS
set_option maxHeartbeats 4000000 in
set_option maxRecDepth 100000 in
theorem w_X4_isTrue_75 (CX : Cx p m c cX4_isTrue 3 s args x0 RX4 meth (some .boolean)) (hK : va_K D vwCl (ty0 cI cJ cB) s) (hsz : s.heap.size = sz) : ∀ (s0 : Int32) (H : Heap) (locs : List Loc) (ls : Array Slot), f_X4_isTrue_75 N s0 = some z → va_P D vwCl (ws_X4_isTrue cI cJ cB) H → va_D (va_A ws0 sz) (ws_X4_isTrue cI cJ cB) → va_S (va_A ws0 sz) s.heap H locs → lv_has ls 3 [] → W p l e rm_X4_isTrue s m args below meth c H locs 0 0 (MQ below (gQ D sz ws0 (ws_X4_isTrue cI cJ cB) (some (.int z))) args s 0 0 (va_A ws0 sz)) (F0 m 75 ls [.int s0]) := by
  obtain ⟨F, hr, hlk, hNw⟩ := id CX
  have hx := F.1
  have hb := F.2.1
  have hown := F.2.2.2.1
  have hA : ∀ q, s.heap.size ≤ q → va_A ws0 sz q := fun q hq => Or.inr (hsz ▸ hq)
  intro s0 H locs ls h hP hD hS hl
  unfold f_X4_isTrue_75 at h
  obtain ⟨hc75, h⟩ := o_c h
  obtain rfl := Option.some.inj h
  exact r_ret (v := s0) F hr hlk (nb01 hc75) dX4_isTrue_75 hsz hP hD hS
end G_X4_isTrue
set_option maxHeartbeats 4000000 in
set_option maxRecDepth 100000 in
theorem c_X4_isTrue (l : Launch) (D : va_G) (cI cJ cB : ClassId) (sz : Nat) (x1 : Int32) (x2 : Int64) (N : Nat) {z : Int32} (h : f_X4_isTrue N x1 x2 = some z) : Mg l yX4_isTrue cX4_isTrue 3 (some .boolean) rm_X4_isTrue D (ty0 cI cJ cB) [.int x1, .long x2] sz (ws_X4_isTrue cI cJ cB) (some (.int z)) (ws_X4_isTrue cI cJ cB) := by
  refine Mg.of (by decide) (Nat.le_of_ble_eq_true rfl) ?_
  intro p e s m below meth c CX hK hsz hP hD ls hl
  have CX : Cx p m c cX4_isTrue 3 s ([.int x1, .long x2] : List Value).toArray (Cond.code yX4_isTrue cX4_isTrue 3 (some .boolean)) RX4 meth (some .boolean) := CX
  obtain ⟨F, hr, hlk, hNw⟩ := id CX
  have hx := F.1
  have hb := F.2.1
  have hown := F.2.2.2.1
  have hl : lv_has ls 3 [(0, .int x1), (1, .long x2)] := hl
  have hS : va_S (va_A (ws_X4_isTrue cI cJ cB) sz) s.heap s.heap [] := va_S.rf
  have hA : ∀ q, s.heap.size ≤ q → va_A (ws_X4_isTrue cI cJ cB) sz q := fun q hq => Or.inr (hsz ▸ hq)
  unfold f_X4_isTrue at h
  refine lv_iload_n hx hb dX4_isTrue_0 rfl (lv_at hl 0 rfl) ?_
  by_cases o1 : x1.toInt < 2 ∨ 4 < x1.toInt
  · have h := o_t o1 h
    refine lv_tableOut (tgt := 64) hx hb dX4_isTrue_1 o1 (by decide) ?_
    refine lv_lload_n hx hb dX4_isTrue_64 rfl (lv_at hl 1 rfl) ?_
    refine lv_lconst (v := 0) hx hb dX4_isTrue_65 (by decide) ?_
    refine W.lcmp hx hb dX4_isTrue_66 ?_
    refine lv_if_gt (tgt := 74) hx hb dX4_isTrue_67 (by decide) (fun c67 => ?_) (fun c67 => ?_)
    · have h := o_t c67 h
      refine lv_iconst (v := 0) hx hb dX4_isTrue_74 (by decide) ?_
      exact w_X4_isTrue_75 CX hK hsz 0 _ _ _ h hP hD hS (lv_sub hl [] rfl)
    · have h := o_f c67 h
      refine lv_iconst (v := 1) hx hb dX4_isTrue_70 (by decide) ?_
      refine lv_goto (tgt := 75) hx hb dX4_isTrue_71 (by decide) ?_
      exact w_X4_isTrue_75 CX hK hsz 1 _ _ _ h hP hD hS (lv_sub hl [] rfl)
  · have h := o_f o1 h
    by_cases e1_2 : x1 = 2
    · have h := o_t e1_2 h
      refine lv_tableIn (off := 27) (tgt := 28) hx hb dX4_isTrue_1 (by rw [e1_2]; decide) (by rw [e1_2]; decide) (by rw [e1_2]; rfl) (by decide) ?_
      refine lv_lload_n hx hb dX4_isTrue_28 rfl (lv_at hl 1 rfl) ?_
      refine lv_lconst (v := 0) hx hb dX4_isTrue_29 (by decide) ?_
      refine W.lcmp hx hb dX4_isTrue_30 ?_
      refine lv_if_ne (tgt := 38) hx hb dX4_isTrue_31 (by decide) (fun c31 => ?_) (fun c31 => ?_)
      · have h := o_f c31 h
        refine lv_iconst (v := 0) hx hb dX4_isTrue_38 (by decide) ?_
        exact w_X4_isTrue_39 CX hK hsz 0 _ _ _ h hP hD hS (lv_sub hl [] rfl)
      · have h := o_t c31 h
        refine lv_iconst (v := 1) hx hb dX4_isTrue_34 (by decide) ?_
        refine lv_goto (tgt := 39) hx hb dX4_isTrue_35 (by decide) ?_
        exact w_X4_isTrue_39 CX hK hsz 1 _ _ _ h hP hD hS (lv_sub hl [] rfl)
    · have h := o_f e1_2 h
      by_cases e1_3 : x1 = 3
      · have h := o_t e1_3 h
        refine lv_tableIn (off := 39) (tgt := 40) hx hb dX4_isTrue_1 (by rw [e1_3]; decide) (by rw [e1_3]; decide) (by rw [e1_3]; rfl) (by decide) ?_
        refine lv_lload_n hx hb dX4_isTrue_40 rfl (lv_at hl 1 rfl) ?_
        refine lv_lconst (v := 0) hx hb dX4_isTrue_41 (by decide) ?_
        refine W.lcmp hx hb dX4_isTrue_42 ?_
        refine lv_if_eq (tgt := 50) hx hb dX4_isTrue_43 (by decide) (fun c43 => ?_) (fun c43 => ?_)
        · have h := o_t c43 h
          refine lv_iconst (v := 0) hx hb dX4_isTrue_50 (by decide) ?_
          exact w_X4_isTrue_51 CX hK hsz 0 _ _ _ h hP hD hS (lv_sub hl [] rfl)
        · have h := o_f c43 h
          refine lv_iconst (v := 1) hx hb dX4_isTrue_46 (by decide) ?_
          refine lv_goto (tgt := 51) hx hb dX4_isTrue_47 (by decide) ?_
          exact w_X4_isTrue_51 CX hK hsz 1 _ _ _ h hP hD hS (lv_sub hl [] rfl)
      · have h := o_f e1_3 h
        by_cases e1_4 : x1 = 4
        · have h := o_t e1_4 h
          refine lv_tableIn (off := 51) (tgt := 52) hx hb dX4_isTrue_1 (by rw [e1_4]; decide) (by rw [e1_4]; decide) (by rw [e1_4]; rfl) (by decide) ?_
          refine lv_lload_n hx hb dX4_isTrue_52 rfl (lv_at hl 1 rfl) ?_
          refine lv_lconst (v := 0) hx hb dX4_isTrue_53 (by decide) ?_
          refine W.lcmp hx hb dX4_isTrue_54 ?_
          refine lv_if_ge (tgt := 62) hx hb dX4_isTrue_55 (by decide) (fun c55 => ?_) (fun c55 => ?_)
          · have h := o_t c55 h
            refine lv_iconst (v := 0) hx hb dX4_isTrue_62 (by decide) ?_
            exact w_X4_isTrue_63 CX hK hsz 0 _ _ _ h hP hD hS (lv_sub hl [] rfl)
          · have h := o_f c55 h
            refine lv_iconst (v := 1) hx hb dX4_isTrue_58 (by decide) ?_
            refine lv_goto (tgt := 63) hx hb dX4_isTrue_59 (by decide) ?_
            exact w_X4_isTrue_63 CX hK hsz 1 _ _ _ h hP hD hS (lv_sub hl [] rfl)
        · have h := o_f e1_4 h
          cases h
section G_X4_empty
abbrev ws_X4_empty (cI cJ cB : ClassId) (a0 a_numbers : Nat) (numbers : Nat → Int64) : va_W := [(a0, .inr (6, [.ref a_numbers])), (a_numbers, .inl (cJ, 9, .inr (.inl numbers)))]
abbrev rm_X4_empty : Room := { frames := 1, cells := 0, slots := 0, locals := 24 }
def f_X4_empty (N : Nat) (numbers : Nat → Int64) : Option ((Nat → Int64)) := (f_J7_fill_d0a16 N numbers 9 0).bind (fun z5 => some z5)
variable {p : Program} {l : Launch} {e : Env} {s : State} {m : MethodId} {below : List Frame} {meth : Method} {c : Code} {args : Array Value} {x0 : Cond} {D : va_G} {cI cJ cB : ClassId} {sz N : Nat} {ws0 : va_W} {a0 a_numbers : Nat} {z : (Nat → Int64)}
end G_X4_empty
set_option maxHeartbeats 4000000 in
set_option maxRecDepth 100000 in
theorem c_X4_empty (l : Launch) (D : va_G) (cI cJ cB : ClassId) (a0 a_numbers : Nat) (sz : Nat) (numbers : Nat → Int64) (N : Nat) {z : (Nat → Int64)} (h : f_X4_empty N numbers = some z) : Mg l yX4_empty cX4_empty 1 none rm_X4_empty D (ty0 cI cJ cB) [.ref a0] sz (ws_X4_empty cI cJ cB a0 a_numbers numbers) none (ws_X4_empty cI cJ cB a0 a_numbers z) := by
  refine Mg.of (by decide) (Nat.le_of_ble_eq_true rfl) ?_
  intro p e s m below meth c CX hK hsz hP hD ls hl
  have CX : Cx p m c cX4_empty 1 s ([.ref a0] : List Value).toArray (Cond.code yX4_empty cX4_empty 1 none) RX4 meth none := CX
  obtain ⟨F, hr, hlk, hNw⟩ := id CX
  have hx := F.1
  have hb := F.2.1
  have hown := F.2.2.2.1
  have hl : lv_has ls 1 [(0, .ref a0)] := hl
  have hS : va_S (va_A (ws_X4_empty cI cJ cB a0 a_numbers numbers) sz) s.heap s.heap [] := va_S.rf
  have hA : ∀ q, s.heap.size ≤ q → va_A (ws_X4_empty cI cJ cB a0 a_numbers numbers) sz q := fun q hq => Or.inr (hsz ▸ hq)
  unfold f_X4_empty at h
  refine lv_aload_n hx hb dX4_empty_0 rfl (lv_at hl 0 rfl) ?_
  refine r_get F hK hP 0 0 rfl inW_X4 wm_159 rfl (by decide) rfl dX4_empty_1 ?_
  refine lv_lconst (v := 0) hx hb dX4_empty_4 (by decide) ?_
  obtain ⟨z5, hz5, h⟩ := o_b h
  refine k_s (wn := (ws_X4_empty cI cJ cB a0 a_numbers z5)) (As := [.ref a_numbers, .long 0]) (rest := []) F hNw hK hP hD hS hA (c_J7_fill_d0a16 l D cI cJ cB a_numbers _ numbers 9 0 N hz5) wm_678 cs_J7_fill_d0a16 [1] [0] [0, 1] (⟨rfl, rfl, rfl, by decide, rfl⟩ : Ix [1] [0] [0, 1] 2) rfl rfl rfl ⟨rfl, rfl, by decide, by decide⟩ hl.1 rfl (Nat.le_of_ble_eq_true rfl) ⟨Nat.zero_le _, Nat.zero_le _⟩ dX4_empty_5 (fun H locs hP hD hS => ?_)
  obtain rfl := Option.some.inj h
  exact r_vret F hr hlk dX4_empty_8 hsz hP hD hS
section G_X4_add
abbrev ws_X4_add (cI cJ cB : ClassId) (a0 a_numbers : Nat) (numbers : Nat → Int64) : va_W := [(a0, .inr (6, [.ref a_numbers])), (a_numbers, .inl (cJ, 9, .inr (.inl numbers)))]
abbrev rm_X4_add : Room := { frames := 0, cells := 0, slots := 0, locals := 0 }
def f_X4_add_20 (N : Nat) (numbers : Nat → Int64) : Option ((Nat → Int64)) := some numbers
def f_X4_add (N : Nat) (numbers : Nat → Int64) (x1 : Int32) (x2 : Int64) : Option ((Nat → Int64)) := ifb (x1 < 0) (f_X4_add_20 N numbers) (ifb (9 ≤ x1) (f_X4_add_20 N numbers) (ix x1 9 (ix x1 9 (f_X4_add_20 N (vp_updL numbers x1.toNatClampNeg ((numbers x1.toNatClampNeg) + x2))))))
variable {p : Program} {l : Launch} {e : Env} {s : State} {m : MethodId} {below : List Frame} {meth : Method} {c : Code} {args : Array Value} {x0 : Cond} {D : va_G} {cI cJ cB : ClassId} {sz N : Nat} {ws0 : va_W} {a0 a_numbers : Nat} {z : (Nat → Int64)}
set_option maxHeartbeats 4000000 in
set_option maxRecDepth 100000 in
theorem w_X4_add_20 (CX : Cx p m c cX4_add 4 s args x0 RX4 meth none) (hK : va_K D vwCl (ty0 cI cJ cB) s) (hsz : s.heap.size = sz) : ∀ (numbers : Nat → Int64) (H : Heap) (locs : List Loc) (ls : Array Slot), f_X4_add_20 N numbers = some z → va_P D vwCl (ws_X4_add cI cJ cB a0 a_numbers numbers) H → va_D (va_A ws0 sz) (ws_X4_add cI cJ cB a0 a_numbers numbers) → va_S (va_A ws0 sz) s.heap H locs → lv_has ls 4 [] → W p l e rm_X4_add s m args below meth c H locs 0 0 (MQ below (gQ D sz ws0 (ws_X4_add cI cJ cB a0 a_numbers z) none) args s 0 0 (va_A ws0 sz)) (F0 m 20 ls []) := by
  obtain ⟨F, hr, hlk, hNw⟩ := id CX
  have hx := F.1
  have hb := F.2.1
  have hown := F.2.2.2.1
  have hA : ∀ q, s.heap.size ≤ q → va_A ws0 sz q := fun q hq => Or.inr (hsz ▸ hq)
  intro numbers H locs ls h hP hD hS hl
  unfold f_X4_add_20 at h
  obtain rfl := Option.some.inj h
  exact r_vret F hr hlk dX4_add_20 hsz hP hD hS
end G_X4_add
set_option maxHeartbeats 4000000 in
set_option maxRecDepth 100000 in
theorem c_X4_add (l : Launch) (D : va_G) (cI cJ cB : ClassId) (a0 a_numbers : Nat) (sz : Nat) (numbers : Nat → Int64) (x1 : Int32) (x2 : Int64) (N : Nat) {z : (Nat → Int64)} (h : f_X4_add N numbers x1 x2 = some z) : Mg l yX4_add cX4_add 4 none rm_X4_add D (ty0 cI cJ cB) [.ref a0, .int x1, .long x2] sz (ws_X4_add cI cJ cB a0 a_numbers numbers) none (ws_X4_add cI cJ cB a0 a_numbers z) := by
  refine Mg.of (by decide) (Nat.le_of_ble_eq_true rfl) ?_
  intro p e s m below meth c CX hK hsz hP hD ls hl
  have CX : Cx p m c cX4_add 4 s ([.ref a0, .int x1, .long x2] : List Value).toArray (Cond.code yX4_add cX4_add 4 none) RX4 meth none := CX
  obtain ⟨F, hr, hlk, hNw⟩ := id CX
  have hx := F.1
  have hb := F.2.1
  have hown := F.2.2.2.1
  have hl : lv_has ls 4 [(0, .ref a0), (1, .int x1), (2, .long x2)] := hl
  have hS : va_S (va_A (ws_X4_add cI cJ cB a0 a_numbers numbers) sz) s.heap s.heap [] := va_S.rf
  have hA : ∀ q, s.heap.size ≤ q → va_A (ws_X4_add cI cJ cB a0 a_numbers numbers) sz q := fun q hq => Or.inr (hsz ▸ hq)
  unfold f_X4_add at h
  refine lv_iload_n hx hb dX4_add_0 rfl (lv_at hl 1 rfl) ?_
  refine lv_if_lt (tgt := 20) hx hb dX4_add_1 (by decide) (fun c1 => ?_) (fun c1 => ?_)
  · have h := o_t c1 h
    exact w_X4_add_20 CX hK hsz numbers _ _ _ h hP hD hS (lv_sub hl [] rfl)
  · have h := o_f c1 h
    refine lv_iload_n hx hb dX4_add_4 rfl (lv_at hl 1 rfl) ?_
    refine lv_bipush (v := 9) hx hb dX4_add_5 (by decide) ?_
    refine lv_icmp_ge (tgt := 20) hx hb dX4_add_7 (by decide) (fun c7 => ?_) (fun c7 => ?_)
    · have h := o_t c7 h
      exact w_X4_add_20 CX hK hsz numbers _ _ _ h hP hD hS (lv_sub hl [] rfl)
    · have h := o_f c7 h
      refine lv_aload_n hx hb dX4_add_10 rfl (lv_at hl 0 rfl) ?_
      refine r_get F hK hP 0 0 rfl inW_X4 wm_159 rfl (by decide) rfl dX4_add_11 ?_
      refine lv_iload_n hx hb dX4_add_14 rfl (lv_at hl 1 rfl) ?_
      refine lv_dup2_11 hx hb dX4_add_15 rfl rfl ?_
      obtain ⟨hi16, h⟩ := o_ix h
      refine va_lald hx hb hK hP 1 1 rfl rfl hi16 dX4_add_16 ?_
      refine lv_lload_n hx hb dX4_add_17 rfl (lv_at hl 2 rfl) ?_
      refine lv_ladd hx hb dX4_add_18 ?_
      obtain ⟨hi19, h⟩ := o_ix h
      refine r_last (wn := (ws_X4_add cI cJ cB a0 a_numbers (vp_updL numbers x1.toNatClampNeg ((numbers x1.toNatClampNeg) + x2)))) F hK hP hD hS 1 1 hi19 rfl rfl rfl dX4_add_19 (fun H locs hP hD hS => ?_)
      exact w_X4_add_20 CX hK hsz (vp_updL numbers x1.toNatClampNeg ((numbers x1.toNatClampNeg) + x2)) _ _ _ h hP hD hS (lv_sub hl [] rfl)
section G_X4_turn
abbrev ws_X4_turn (cI cJ cB : ClassId) (a0 a_numbers : Nat) (numbers : Nat → Int64) : va_W := [(a0, .inr (6, [.ref a_numbers])), (a_numbers, .inl (cJ, 9, .inr (.inl numbers)))]
abbrev rm_X4_turn : Room := { frames := 0, cells := 0, slots := 0, locals := 0 }
def f_X4_turn_2 (N : Nat) : Nat → (Nat → Int64) → Int32 → Option ((Nat → Int64))
  | 0 => fun _ _ => none
  | n + 1 => fun numbers y1 => ifb (9 ≤ y1) (some numbers) (ix y1 9 (ix y1 9 (f_X4_turn_2 N n (vp_updL numbers y1.toNatClampNeg (-(numbers y1.toNatClampNeg))) (y1 + 1))))
def f_X4_turn (N : Nat) (numbers : Nat → Int64) : Option ((Nat → Int64)) := f_X4_turn_2 N N numbers 0
variable {p : Program} {l : Launch} {e : Env} {s : State} {m : MethodId} {below : List Frame} {meth : Method} {c : Code} {args : Array Value} {x0 : Cond} {D : va_G} {cI cJ cB : ClassId} {sz N : Nat} {ws0 : va_W} {a0 a_numbers : Nat} {z : (Nat → Int64)}
set_option maxHeartbeats 4000000 in
set_option maxRecDepth 100000 in
theorem w_X4_turn_2 (CX : Cx p m c cX4_turn 2 s args x0 RX4 meth none) (hK : va_K D vwCl (ty0 cI cJ cB) s) (hsz : s.heap.size = sz) : ∀ (n : Nat), ∀ (numbers : Nat → Int64) (y1 : Int32) (H : Heap) (locs : List Loc) (ls : Array Slot), f_X4_turn_2 N n numbers y1 = some z → va_P D vwCl (ws_X4_turn cI cJ cB a0 a_numbers numbers) H → va_D (va_A ws0 sz) (ws_X4_turn cI cJ cB a0 a_numbers numbers) → va_S (va_A ws0 sz) s.heap H locs → lv_has ls 2 [(0, .ref a0), (1, .int y1)] → W p l e rm_X4_turn s m args below meth c H locs 0 0 (MQ below (gQ D sz ws0 (ws_X4_turn cI cJ cB a0 a_numbers z) none) args s 0 0 (va_A ws0 sz)) (F0 m 2 ls []) := by
  obtain ⟨F, hr, hlk, hNw⟩ := id CX
  have hx := F.1
  have hb := F.2.1
  have hown := F.2.2.2.1
  have hA : ∀ q, s.heap.size ≤ q → va_A ws0 sz q := fun q hq => Or.inr (hsz ▸ hq)
  intro n
  induction n with
  | zero =>
    intro numbers y1 H locs ls h
    cases h
  | succ n ih =>
    intro numbers y1 H locs ls h hP hD hS hl
    unfold f_X4_turn_2 at h
    refine lv_iload_n hx hb dX4_turn_2 rfl (lv_at hl 1 rfl) ?_
    refine lv_bipush (v := 9) hx hb dX4_turn_3 (by decide) ?_
    refine lv_icmp_ge (tgt := 27) hx hb dX4_turn_5 (by decide) (fun c5 => ?_) (fun c5 => ?_)
    · have h := o_t c5 h
      obtain rfl := Option.some.inj h
      exact r_vret F hr hlk dX4_turn_27 hsz hP hD hS
    · have h := o_f c5 h
      refine lv_aload_n hx hb dX4_turn_8 rfl (lv_at hl 0 rfl) ?_
      refine r_get F hK hP 0 0 rfl inW_X4 wm_159 rfl (by decide) rfl dX4_turn_9 ?_
      refine lv_iload_n hx hb dX4_turn_12 rfl (lv_at hl 1 rfl) ?_
      refine lv_aload_n hx hb dX4_turn_13 rfl (lv_at hl 0 rfl) ?_
      refine r_get F hK hP 0 0 rfl inW_X4 wm_159 rfl (by decide) rfl dX4_turn_14 ?_
      refine lv_iload_n hx hb dX4_turn_17 rfl (lv_at hl 1 rfl) ?_
      obtain ⟨hi18, h⟩ := o_ix h
      refine va_lald hx hb hK hP 1 1 rfl rfl hi18 dX4_turn_18 ?_
      refine lv_lneg hx hb dX4_turn_19 ?_
      obtain ⟨hi20, h⟩ := o_ix h
      refine r_last (wn := (ws_X4_turn cI cJ cB a0 a_numbers (vp_updL numbers y1.toNatClampNeg (-(numbers y1.toNatClampNeg))))) F hK hP hD hS 1 1 hi20 rfl rfl rfl dX4_turn_20 (fun H locs hP hD hS => ?_)
      refine lv_iinc (v := y1 + 1) (lv' := [(1, .int (y1 + 1)), (0, .ref a0)]) hx hb dX4_turn_21 hl (k := 1) rfl rfl (by decide) rfl (fun ls hl => ?_)
      refine lv_goto (tgt := 2) hx hb dX4_turn_24 (by decide) ?_
      exact ih (vp_updL numbers y1.toNatClampNeg (-(numbers y1.toNatClampNeg))) (y1 + 1) _ _ _ h hP hD hS (lv_sub hl [1, 0] rfl)
end G_X4_turn
set_option maxHeartbeats 4000000 in
set_option maxRecDepth 100000 in
theorem c_X4_turn (l : Launch) (D : va_G) (cI cJ cB : ClassId) (a0 a_numbers : Nat) (sz : Nat) (numbers : Nat → Int64) (N : Nat) {z : (Nat → Int64)} (h : f_X4_turn N numbers = some z) : Mg l yX4_turn cX4_turn 2 none rm_X4_turn D (ty0 cI cJ cB) [.ref a0] sz (ws_X4_turn cI cJ cB a0 a_numbers numbers) none (ws_X4_turn cI cJ cB a0 a_numbers z) := by
  refine Mg.of (by decide) (Nat.le_of_ble_eq_true rfl) ?_
  intro p e s m below meth c CX hK hsz hP hD ls hl
  have CX : Cx p m c cX4_turn 2 s ([.ref a0] : List Value).toArray (Cond.code yX4_turn cX4_turn 2 none) RX4 meth none := CX
  obtain ⟨F, hr, hlk, hNw⟩ := id CX
  have hx := F.1
  have hb := F.2.1
  have hown := F.2.2.2.1
  have hl : lv_has ls 2 [(0, .ref a0)] := hl
  have hS : va_S (va_A (ws_X4_turn cI cJ cB a0 a_numbers numbers) sz) s.heap s.heap [] := va_S.rf
  have hA : ∀ q, s.heap.size ≤ q → va_A (ws_X4_turn cI cJ cB a0 a_numbers numbers) sz q := fun q hq => Or.inr (hsz ▸ hq)
  unfold f_X4_turn at h
  refine lv_iconst (v := 0) hx hb dX4_turn_0 (by decide) ?_
  refine lv_istore_n (lv' := [(1, .int 0), (0, .ref a0)]) hx hb dX4_turn_1 rfl hl (by decide) rfl (fun ls hl => ?_)
  exact w_X4_turn_2 CX hK hsz N numbers 0 _ _ _ h hP hD hS (lv_sub hl [1, 0] rfl)
section G_X4_bits
abbrev ws_X4_bits (cI cJ cB : ClassId) (a0 a_numbers : Nat) (numbers : Nat → Int64) : va_W := [(a0, .inr (6, [.ref a_numbers])), (a_numbers, .inl (cJ, 9, .inr (.inl numbers)))]
abbrev rm_X4_bits : Room := { frames := 0, cells := 0, slots := 0, locals := 0 }
def f_X4_bits_27 (K4 : (Nat → Int64) → Int32 → Int32 → Option (Int32)) (N : Nat) (numbers : Nat → Int64) (y1 : Int32) (y2 : Int32) : Option (Int32) := K4 numbers y1 (y2 + 1)
def f_X4_bits_4 (N : Nat) : Nat → (Nat → Int64) → Int32 → Int32 → Option (Int32)
  | 0 => fun _ _ _ => none
  | n + 1 => fun numbers y1 y2 => ifb (8 ≤ y2) (some y1) (ix y2 9 (ifb ((lg_cmp (numbers y2.toNatClampNeg) 0) = 0) (f_X4_bits_27 (f_X4_bits_4 N n) N numbers y1 y2) (f_X4_bits_27 (f_X4_bits_4 N n) N numbers (y1 ||| (1 <<< (y2 &&& 31))) y2)))
def f_X4_bits (N : Nat) (numbers : Nat → Int64) : Option (Int32) := f_X4_bits_4 N N numbers 0 0
variable {p : Program} {l : Launch} {e : Env} {s : State} {m : MethodId} {below : List Frame} {meth : Method} {c : Code} {args : Array Value} {x0 : Cond} {D : va_G} {cI cJ cB : ClassId} {sz N : Nat} {ws0 : va_W} {a0 a_numbers : Nat} {numbers : Nat → Int64} {z : Int32}
set_option maxHeartbeats 4000000 in
set_option maxRecDepth 100000 in
theorem w_X4_bits_27 (CX : Cx p m c cX4_bits 3 s args x0 RX4 meth (some .int)) (hK : va_K D vwCl (ty0 cI cJ cB) s) (hsz : s.heap.size = sz) {K4 : (Nat → Int64) → Int32 → Int32 → Option (Int32)} (hK4 : ∀ (y1 : Int32) (y2 : Int32) (H : Heap) (locs : List Loc) (ls : Array Slot), K4 numbers y1 y2 = some z → va_P D vwCl (ws_X4_bits cI cJ cB a0 a_numbers numbers) H → va_D (va_A ws0 sz) (ws_X4_bits cI cJ cB a0 a_numbers numbers) → va_S (va_A ws0 sz) s.heap H locs → lv_has ls 3 [(0, .ref a0), (1, .int y1), (2, .int y2)] → W p l e rm_X4_bits s m args below meth c H locs 0 0 (MQ below (gQ D sz ws0 (ws_X4_bits cI cJ cB a0 a_numbers numbers) (some (.int z))) args s 0 0 (va_A ws0 sz)) (F0 m 4 ls [])) : ∀ (y1 : Int32) (y2 : Int32) (H : Heap) (locs : List Loc) (ls : Array Slot), f_X4_bits_27 K4 N numbers y1 y2 = some z → va_P D vwCl (ws_X4_bits cI cJ cB a0 a_numbers numbers) H → va_D (va_A ws0 sz) (ws_X4_bits cI cJ cB a0 a_numbers numbers) → va_S (va_A ws0 sz) s.heap H locs → lv_has ls 3 [(0, .ref a0), (1, .int y1), (2, .int y2)] → W p l e rm_X4_bits s m args below meth c H locs 0 0 (MQ below (gQ D sz ws0 (ws_X4_bits cI cJ cB a0 a_numbers numbers) (some (.int z))) args s 0 0 (va_A ws0 sz)) (F0 m 27 ls []) := by
  obtain ⟨F, hr, hlk, hNw⟩ := id CX
  have hx := F.1
  have hb := F.2.1
  have hown := F.2.2.2.1
  have hA : ∀ q, s.heap.size ≤ q → va_A ws0 sz q := fun q hq => Or.inr (hsz ▸ hq)
  intro y1 y2 H locs ls h hP hD hS hl
  unfold f_X4_bits_27 at h
  refine lv_iinc (v := y2 + 1) (lv' := [(2, .int (y2 + 1)), (0, .ref a0), (1, .int y1)]) hx hb dX4_bits_27 hl (k := 2) rfl rfl (by decide) rfl (fun ls hl => ?_)
  refine lv_goto (tgt := 4) hx hb dX4_bits_30 (by decide) ?_
  exact hK4 y1 (y2 + 1) _ _ _ h hP hD hS (lv_sub hl [1, 2, 0] rfl)
set_option maxHeartbeats 4000000 in
set_option maxRecDepth 100000 in
theorem w_X4_bits_4 (CX : Cx p m c cX4_bits 3 s args x0 RX4 meth (some .int)) (hK : va_K D vwCl (ty0 cI cJ cB) s) (hsz : s.heap.size = sz) : ∀ (n : Nat), ∀ (y1 : Int32) (y2 : Int32) (H : Heap) (locs : List Loc) (ls : Array Slot), f_X4_bits_4 N n numbers y1 y2 = some z → va_P D vwCl (ws_X4_bits cI cJ cB a0 a_numbers numbers) H → va_D (va_A ws0 sz) (ws_X4_bits cI cJ cB a0 a_numbers numbers) → va_S (va_A ws0 sz) s.heap H locs → lv_has ls 3 [(0, .ref a0), (1, .int y1), (2, .int y2)] → W p l e rm_X4_bits s m args below meth c H locs 0 0 (MQ below (gQ D sz ws0 (ws_X4_bits cI cJ cB a0 a_numbers numbers) (some (.int z))) args s 0 0 (va_A ws0 sz)) (F0 m 4 ls []) := by
  obtain ⟨F, hr, hlk, hNw⟩ := id CX
  have hx := F.1
  have hb := F.2.1
  have hown := F.2.2.2.1
  have hA : ∀ q, s.heap.size ≤ q → va_A ws0 sz q := fun q hq => Or.inr (hsz ▸ hq)
  intro n
  induction n with
  | zero =>
    intro y1 y2 H locs ls h
    cases h
  | succ n ih =>
    intro y1 y2 H locs ls h hP hD hS hl
    unfold f_X4_bits_4 at h
    refine lv_iload_n hx hb dX4_bits_4 rfl (lv_at hl 2 rfl) ?_
    refine lv_bipush (v := 8) hx hb dX4_bits_5 (by decide) ?_
    refine lv_icmp_ge (tgt := 33) hx hb dX4_bits_7 (by decide) (fun c7 => ?_) (fun c7 => ?_)
    · have h := o_t c7 h
      refine lv_iload_n hx hb dX4_bits_33 rfl (lv_at hl 1 rfl) ?_
      obtain rfl := Option.some.inj h
      exact r_ret (v := y1) F hr hlk rfl dX4_bits_34 hsz hP hD hS
    · have h := o_f c7 h
      refine lv_aload_n hx hb dX4_bits_10 rfl (lv_at hl 0 rfl) ?_
      refine r_get F hK hP 0 0 rfl inW_X4 wm_159 rfl (by decide) rfl dX4_bits_11 ?_
      refine lv_iload_n hx hb dX4_bits_14 rfl (lv_at hl 2 rfl) ?_
      obtain ⟨hi15, h⟩ := o_ix h
      refine va_lald hx hb hK hP 1 1 rfl rfl hi15 dX4_bits_15 ?_
      refine lv_lconst (v := 0) hx hb dX4_bits_16 (by decide) ?_
      refine W.lcmp hx hb dX4_bits_17 ?_
      refine lv_if_eq (tgt := 27) hx hb dX4_bits_18 (by decide) (fun c18 => ?_) (fun c18 => ?_)
      · have h := o_t c18 h
        exact w_X4_bits_27 CX hK hsz (hK4 := ih) y1 y2 _ _ _ h hP hD hS (lv_sub hl [0, 1, 2] rfl)
      · have h := o_f c18 h
        refine lv_iload_n hx hb dX4_bits_21 rfl (lv_at hl 1 rfl) ?_
        refine lv_iconst (v := 1) hx hb dX4_bits_22 (by decide) ?_
        refine lv_iload_n hx hb dX4_bits_23 rfl (lv_at hl 2 rfl) ?_
        refine lv_ishl hx hb dX4_bits_24 ?_
        refine lv_ior hx hb dX4_bits_25 ?_
        refine lv_istore_n (lv' := [(1, .int (y1 ||| (1 <<< (y2 &&& 31)))), (0, .ref a0), (2, .int y2)]) hx hb dX4_bits_26 rfl hl (by decide) rfl (fun ls hl => ?_)
        exact w_X4_bits_27 CX hK hsz (hK4 := ih) (y1 ||| (1 <<< (y2 &&& 31))) y2 _ _ _ h hP hD hS (lv_sub hl [1, 0, 2] rfl)
end G_X4_bits
set_option maxHeartbeats 4000000 in
set_option maxRecDepth 100000 in
theorem c_X4_bits (l : Launch) (D : va_G) (cI cJ cB : ClassId) (a0 a_numbers : Nat) (sz : Nat) (numbers : Nat → Int64) (N : Nat) {z : Int32} (h : f_X4_bits N numbers = some z) : Mg l yX4_bits cX4_bits 3 (some .int) rm_X4_bits D (ty0 cI cJ cB) [.ref a0] sz (ws_X4_bits cI cJ cB a0 a_numbers numbers) (some (.int z)) (ws_X4_bits cI cJ cB a0 a_numbers numbers) := by
  refine Mg.of (by decide) (Nat.le_of_ble_eq_true rfl) ?_
  intro p e s m below meth c CX hK hsz hP hD ls hl
  have CX : Cx p m c cX4_bits 3 s ([.ref a0] : List Value).toArray (Cond.code yX4_bits cX4_bits 3 (some .int)) RX4 meth (some .int) := CX
  obtain ⟨F, hr, hlk, hNw⟩ := id CX
  have hx := F.1
  have hb := F.2.1
  have hown := F.2.2.2.1
  have hl : lv_has ls 3 [(0, .ref a0)] := hl
  have hS : va_S (va_A (ws_X4_bits cI cJ cB a0 a_numbers numbers) sz) s.heap s.heap [] := va_S.rf
  have hA : ∀ q, s.heap.size ≤ q → va_A (ws_X4_bits cI cJ cB a0 a_numbers numbers) sz q := fun q hq => Or.inr (hsz ▸ hq)
  unfold f_X4_bits at h
  refine lv_iconst (v := 0) hx hb dX4_bits_0 (by decide) ?_
  refine lv_istore_n (lv' := [(1, .int 0), (0, .ref a0)]) hx hb dX4_bits_1 rfl hl (by decide) rfl (fun ls hl => ?_)
  refine lv_iconst (v := 0) hx hb dX4_bits_2 (by decide) ?_
  refine lv_istore_n (lv' := [(2, .int 0), (1, .int 0), (0, .ref a0)]) hx hb dX4_bits_3 rfl hl (by decide) rfl (fun ls hl => ?_)
  exact w_X4_bits_4 CX hK hsz N 0 0 _ _ _ h hP hD hS (lv_sub hl [2, 1, 0] rfl)
section G_X4_commonDivisor
abbrev ws_X4_commonDivisor (cI cJ cB : ClassId) (a0 a_numbers : Nat) (numbers : Nat → Int64) : va_W := [(a0, .inr (6, [.ref a_numbers])), (a_numbers, .inl (cJ, 9, .inr (.inl numbers)))]
abbrev rm_X4_commonDivisor : Room := { frames := 1, cells := 0, slots := 0, locals := 23 }
def f_X4_commonDivisor_64 (K4 : (Nat → Int64) → Int64 → Int32 → Option (Int64)) (N : Nat) (numbers : Nat → Int64) (y1 : Int64) (y3 : Int32) : Option (Int64) := K4 numbers y1 (y3 + 1)
def f_X4_commonDivisor_30 (K4 : (Nat → Int64) → Int64 → Int32 → Option (Int64)) (N : Nat) : Nat → (Nat → Int64) → Int64 → Int32 → Int64 → Int32 → Option (Int64)
  | 0 => fun _ _ _ _ _ => none
  | n + 1 => fun numbers y1 y3 y4 y6 => ifb (200 ≤ y6) (f_X4_commonDivisor_64 K4 N numbers y1 y3) (ifb ((lg_cmp y4 0) = 0) (f_X4_commonDivisor_64 K4 N numbers y1 y3) (ckp (¬ y4 = 0) (f_X4_commonDivisor_30 K4 N n numbers y4 y3 (y1 - y1 / y4 * y4) (y6 + 1))))
def f_X4_commonDivisor_70 (N : Nat) (numbers : Nat → Int64) (y1 : Int64) : Option (Int64) := some y1
def f_X4_commonDivisor_4 (N : Nat) : Nat → (Nat → Int64) → Int64 → Int32 → Option (Int64)
  | 0 => fun _ _ _ => none
  | n + 1 => fun numbers y1 y3 => ifb (9 ≤ y3) (f_X4_commonDivisor_70 N numbers y1) (ifb ((lg_cmp y1 1) = 0) (f_X4_commonDivisor_70 N numbers y1) (ix y3 9 (f_X4_commonDivisor_30 (f_X4_commonDivisor_4 N n) N N numbers y1 y3 (jabsL (numbers y3.toNatClampNeg)) 0)))
def f_X4_commonDivisor (N : Nat) (numbers : Nat → Int64) : Option (Int64) := f_X4_commonDivisor_4 N N numbers 0 0
variable {p : Program} {l : Launch} {e : Env} {s : State} {m : MethodId} {below : List Frame} {meth : Method} {c : Code} {args : Array Value} {x0 : Cond} {D : va_G} {cI cJ cB : ClassId} {sz N : Nat} {ws0 : va_W} {a0 a_numbers : Nat} {numbers : Nat → Int64} {z : Int64}
set_option maxHeartbeats 4000000 in
set_option maxRecDepth 100000 in
theorem w_X4_commonDivisor_64 (CX : Cx p m c cX4_commonDivisor 9 s args x0 RX4 meth (some .long)) (hK : va_K D vwCl (ty0 cI cJ cB) s) (hsz : s.heap.size = sz) {K4 : (Nat → Int64) → Int64 → Int32 → Option (Int64)} (hK4 : ∀ (y1 : Int64) (y3 : Int32) (H : Heap) (locs : List Loc) (ls : Array Slot), K4 numbers y1 y3 = some z → va_P D vwCl (ws_X4_commonDivisor cI cJ cB a0 a_numbers numbers) H → va_D (va_A ws0 sz) (ws_X4_commonDivisor cI cJ cB a0 a_numbers numbers) → va_S (va_A ws0 sz) s.heap H locs → lv_has ls 9 [(0, .ref a0), (1, .long y1), (3, .int y3)] → W p l e rm_X4_commonDivisor s m args below meth c H locs 0 0 (MQ below (gQ D sz ws0 (ws_X4_commonDivisor cI cJ cB a0 a_numbers numbers) (some (.long z))) args s 0 0 (va_A ws0 sz)) (F0 m 4 ls [])) : ∀ (y1 : Int64) (y3 : Int32) (H : Heap) (locs : List Loc) (ls : Array Slot), f_X4_commonDivisor_64 K4 N numbers y1 y3 = some z → va_P D vwCl (ws_X4_commonDivisor cI cJ cB a0 a_numbers numbers) H → va_D (va_A ws0 sz) (ws_X4_commonDivisor cI cJ cB a0 a_numbers numbers) → va_S (va_A ws0 sz) s.heap H locs → lv_has ls 9 [(0, .ref a0), (1, .long y1), (3, .int y3)] → W p l e rm_X4_commonDivisor s m args below meth c H locs 0 0 (MQ below (gQ D sz ws0 (ws_X4_commonDivisor cI cJ cB a0 a_numbers numbers) (some (.long z))) args s 0 0 (va_A ws0 sz)) (F0 m 64 ls []) := by
  obtain ⟨F, hr, hlk, hNw⟩ := id CX
  have hx := F.1
  have hb := F.2.1
  have hown := F.2.2.2.1
  have hA : ∀ q, s.heap.size ≤ q → va_A ws0 sz q := fun q hq => Or.inr (hsz ▸ hq)
  intro y1 y3 H locs ls h hP hD hS hl
  unfold f_X4_commonDivisor_64 at h
  refine lv_iinc (v := y3 + 1) (lv' := [(3, .int (y3 + 1)), (0, .ref a0), (1, .long y1)]) hx hb dX4_commonDivisor_64 hl (k := 2) rfl rfl (by decide) rfl (fun ls hl => ?_)
  refine lv_goto (tgt := 4) hx hb dX4_commonDivisor_67 (by decide) ?_
  exact hK4 y1 (y3 + 1) _ _ _ h hP hD hS (lv_sub hl [1, 2, 0] rfl)
set_option maxHeartbeats 4000000 in
set_option maxRecDepth 100000 in
theorem w_X4_commonDivisor_30 (CX : Cx p m c cX4_commonDivisor 9 s args x0 RX4 meth (some .long)) (hK : va_K D vwCl (ty0 cI cJ cB) s) (hsz : s.heap.size = sz) {K4 : (Nat → Int64) → Int64 → Int32 → Option (Int64)} (hK4 : ∀ (y1 : Int64) (y3 : Int32) (H : Heap) (locs : List Loc) (ls : Array Slot), K4 numbers y1 y3 = some z → va_P D vwCl (ws_X4_commonDivisor cI cJ cB a0 a_numbers numbers) H → va_D (va_A ws0 sz) (ws_X4_commonDivisor cI cJ cB a0 a_numbers numbers) → va_S (va_A ws0 sz) s.heap H locs → lv_has ls 9 [(0, .ref a0), (1, .long y1), (3, .int y3)] → W p l e rm_X4_commonDivisor s m args below meth c H locs 0 0 (MQ below (gQ D sz ws0 (ws_X4_commonDivisor cI cJ cB a0 a_numbers numbers) (some (.long z))) args s 0 0 (va_A ws0 sz)) (F0 m 4 ls [])) : ∀ (n : Nat), ∀ (y1 : Int64) (y3 : Int32) (y4 : Int64) (y6 : Int32) (H : Heap) (locs : List Loc) (ls : Array Slot), f_X4_commonDivisor_30 K4 N n numbers y1 y3 y4 y6 = some z → va_P D vwCl (ws_X4_commonDivisor cI cJ cB a0 a_numbers numbers) H → va_D (va_A ws0 sz) (ws_X4_commonDivisor cI cJ cB a0 a_numbers numbers) → va_S (va_A ws0 sz) s.heap H locs → lv_has ls 9 [(0, .ref a0), (1, .long y1), (3, .int y3), (4, .long y4), (6, .int y6)] → W p l e rm_X4_commonDivisor s m args below meth c H locs 0 0 (MQ below (gQ D sz ws0 (ws_X4_commonDivisor cI cJ cB a0 a_numbers numbers) (some (.long z))) args s 0 0 (va_A ws0 sz)) (F0 m 30 ls []) := by
  obtain ⟨F, hr, hlk, hNw⟩ := id CX
  have hx := F.1
  have hb := F.2.1
  have hown := F.2.2.2.1
  have hA : ∀ q, s.heap.size ≤ q → va_A ws0 sz q := fun q hq => Or.inr (hsz ▸ hq)
  intro n
  induction n with
  | zero =>
    intro y1 y3 y4 y6 H locs ls h
    cases h
  | succ n ih =>
    intro y1 y3 y4 y6 H locs ls h hP hD hS hl
    unfold f_X4_commonDivisor_30 at h
    refine lv_iload hx hb dX4_commonDivisor_30 (lv_at hl 4 rfl) ?_
    refine lv_sipush (v := 200) hx hb dX4_commonDivisor_32 (by decide) ?_
    refine lv_icmp_ge (tgt := 64) hx hb dX4_commonDivisor_35 (by decide) (fun c35 => ?_) (fun c35 => ?_)
    · have h := o_t c35 h
      exact w_X4_commonDivisor_64 CX hK hsz (hK4 := hK4) y1 y3 _ _ _ h hP hD hS (lv_sub hl [0, 1, 2] rfl)
    · have h := o_f c35 h
      refine lv_lload hx hb dX4_commonDivisor_38 (lv_at hl 3 rfl) ?_
      refine lv_lconst (v := 0) hx hb dX4_commonDivisor_40 (by decide) ?_
      refine W.lcmp hx hb dX4_commonDivisor_41 ?_
      refine lv_if_eq (tgt := 64) hx hb dX4_commonDivisor_42 (by decide) (fun c42 => ?_) (fun c42 => ?_)
      · have h := o_t c42 h
        exact w_X4_commonDivisor_64 CX hK hsz (hK4 := hK4) y1 y3 _ _ _ h hP hD hS (lv_sub hl [0, 1, 2] rfl)
      · have h := o_f c42 h
        refine lv_lload_n hx hb dX4_commonDivisor_45 rfl (lv_at hl 1 rfl) ?_
        refine lv_lload hx hb dX4_commonDivisor_46 (lv_at hl 3 rfl) ?_
        obtain ⟨hc48, h⟩ := o_c h
        refine lv_lrem hx hb dX4_commonDivisor_48 hc48 ?_
        refine lv_lstore (lv' := [(7, .long (y1 - y1 / y4 * y4)), (0, .ref a0), (1, .long y1), (3, .int y3), (4, .long y4), (6, .int y6)]) hx hb dX4_commonDivisor_49 hl (by decide) rfl (fun ls hl => ?_)
        refine lv_lload hx hb dX4_commonDivisor_51 (lv_at hl 4 rfl) ?_
        refine lv_lstore_n (lv' := [(1, .long y4), (7, .long (y1 - y1 / y4 * y4)), (0, .ref a0), (3, .int y3), (4, .long y4), (6, .int y6)]) hx hb dX4_commonDivisor_53 rfl hl (by decide) rfl (fun ls hl => ?_)
        refine lv_lload hx hb dX4_commonDivisor_54 (lv_at hl 1 rfl) ?_
        refine lv_lstore (lv' := [(4, .long (y1 - y1 / y4 * y4)), (1, .long y4), (7, .long (y1 - y1 / y4 * y4)), (0, .ref a0), (3, .int y3), (6, .int y6)]) hx hb dX4_commonDivisor_56 hl (by decide) rfl (fun ls hl => ?_)
        refine lv_iinc (v := y6 + 1) (lv' := [(6, .int (y6 + 1)), (4, .long (y1 - y1 / y4 * y4)), (1, .long y4), (7, .long (y1 - y1 / y4 * y4)), (0, .ref a0), (3, .int y3)]) hx hb dX4_commonDivisor_58 hl (k := 5) rfl rfl (by decide) rfl (fun ls hl => ?_)
        refine lv_goto (tgt := 30) hx hb dX4_commonDivisor_61 (by decide) ?_
        exact ih y4 y3 (y1 - y1 / y4 * y4) (y6 + 1) _ _ _ h hP hD hS (lv_sub hl [4, 2, 5, 1, 0] rfl)
set_option maxHeartbeats 4000000 in
set_option maxRecDepth 100000 in
theorem w_X4_commonDivisor_70 (CX : Cx p m c cX4_commonDivisor 9 s args x0 RX4 meth (some .long)) (hK : va_K D vwCl (ty0 cI cJ cB) s) (hsz : s.heap.size = sz) : ∀ (y1 : Int64) (H : Heap) (locs : List Loc) (ls : Array Slot), f_X4_commonDivisor_70 N numbers y1 = some z → va_P D vwCl (ws_X4_commonDivisor cI cJ cB a0 a_numbers numbers) H → va_D (va_A ws0 sz) (ws_X4_commonDivisor cI cJ cB a0 a_numbers numbers) → va_S (va_A ws0 sz) s.heap H locs → lv_has ls 9 [(1, .long y1)] → W p l e rm_X4_commonDivisor s m args below meth c H locs 0 0 (MQ below (gQ D sz ws0 (ws_X4_commonDivisor cI cJ cB a0 a_numbers numbers) (some (.long z))) args s 0 0 (va_A ws0 sz)) (F0 m 70 ls []) := by
  obtain ⟨F, hr, hlk, hNw⟩ := id CX
  have hx := F.1
  have hb := F.2.1
  have hown := F.2.2.2.1
  have hA : ∀ q, s.heap.size ≤ q → va_A ws0 sz q := fun q hq => Or.inr (hsz ▸ hq)
  intro y1 H locs ls h hP hD hS hl
  unfold f_X4_commonDivisor_70 at h
  refine lv_lload_n hx hb dX4_commonDivisor_70 rfl (lv_at hl 0 rfl) ?_
  obtain rfl := Option.some.inj h
  exact r_lret F hr hlk dX4_commonDivisor_71 hsz hP hD hS
set_option maxHeartbeats 4000000 in
set_option maxRecDepth 100000 in
theorem w_X4_commonDivisor_4 (CX : Cx p m c cX4_commonDivisor 9 s args x0 RX4 meth (some .long)) (hK : va_K D vwCl (ty0 cI cJ cB) s) (hsz : s.heap.size = sz) : ∀ (n : Nat), ∀ (y1 : Int64) (y3 : Int32) (H : Heap) (locs : List Loc) (ls : Array Slot), f_X4_commonDivisor_4 N n numbers y1 y3 = some z → va_P D vwCl (ws_X4_commonDivisor cI cJ cB a0 a_numbers numbers) H → va_D (va_A ws0 sz) (ws_X4_commonDivisor cI cJ cB a0 a_numbers numbers) → va_S (va_A ws0 sz) s.heap H locs → lv_has ls 9 [(0, .ref a0), (1, .long y1), (3, .int y3)] → W p l e rm_X4_commonDivisor s m args below meth c H locs 0 0 (MQ below (gQ D sz ws0 (ws_X4_commonDivisor cI cJ cB a0 a_numbers numbers) (some (.long z))) args s 0 0 (va_A ws0 sz)) (F0 m 4 ls []) := by
  obtain ⟨F, hr, hlk, hNw⟩ := id CX
  have hx := F.1
  have hb := F.2.1
  have hown := F.2.2.2.1
  have hA : ∀ q, s.heap.size ≤ q → va_A ws0 sz q := fun q hq => Or.inr (hsz ▸ hq)
  intro n
  induction n with
  | zero =>
    intro y1 y3 H locs ls h
    cases h
  | succ n ih =>
    intro y1 y3 H locs ls h hP hD hS hl
    unfold f_X4_commonDivisor_4 at h
    refine lv_iload_n hx hb dX4_commonDivisor_4 rfl (lv_at hl 2 rfl) ?_
    refine lv_bipush (v := 9) hx hb dX4_commonDivisor_5 (by decide) ?_
    refine lv_icmp_ge (tgt := 70) hx hb dX4_commonDivisor_7 (by decide) (fun c7 => ?_) (fun c7 => ?_)
    · have h := o_t c7 h
      exact w_X4_commonDivisor_70 CX hK hsz y1 _ _ _ h hP hD hS (lv_sub hl [1] rfl)
    · have h := o_f c7 h
      refine lv_lload_n hx hb dX4_commonDivisor_10 rfl (lv_at hl 1 rfl) ?_
      refine lv_lconst (v := 1) hx hb dX4_commonDivisor_11 (by decide) ?_
      refine W.lcmp hx hb dX4_commonDivisor_12 ?_
      refine lv_if_eq (tgt := 70) hx hb dX4_commonDivisor_13 (by decide) (fun c13 => ?_) (fun c13 => ?_)
      · have h := o_t c13 h
        exact w_X4_commonDivisor_70 CX hK hsz y1 _ _ _ h hP hD hS (lv_sub hl [1] rfl)
      · have h := o_f c13 h
        refine lv_aload_n hx hb dX4_commonDivisor_16 rfl (lv_at hl 0 rfl) ?_
        refine r_get F hK hP 0 0 rfl inW_X4 wm_159 rfl (by decide) rfl dX4_commonDivisor_17 ?_
        refine lv_iload_n hx hb dX4_commonDivisor_20 rfl (lv_at hl 2 rfl) ?_
        obtain ⟨hi21, h⟩ := o_ix h
        refine va_lald hx hb hK hP 1 1 rfl rfl hi21 dX4_commonDivisor_21 ?_
        refine va_mabs_long hx hb (F.2.2.1.trans hl.1.symm) hown (F.2.2.2.2 _ (q_in wm_724)) (F.2.2.2.2 _ (q_in wm_725)) (F.2.2.2.2 _ (q_in wm_75)) (F.2.2.2.2 _ (q_in wm_726)) (Nat.le_of_ble_eq_true rfl) (Nat.le_of_ble_eq_true rfl) (Nat.zero_le _) (Nat.zero_le _) dX4_commonDivisor_22 ?_
        refine lv_lstore (lv' := [(4, .long (jabsL (numbers y3.toNatClampNeg))), (0, .ref a0), (1, .long y1), (3, .int y3)]) hx hb dX4_commonDivisor_25 hl (by decide) rfl (fun ls hl => ?_)
        refine lv_iconst (v := 0) hx hb dX4_commonDivisor_27 (by decide) ?_
        refine lv_istore (lv' := [(6, .int 0), (4, .long (jabsL (numbers y3.toNatClampNeg))), (0, .ref a0), (1, .long y1), (3, .int y3)]) hx hb dX4_commonDivisor_28 hl (by decide) rfl (fun ls hl => ?_)
        exact w_X4_commonDivisor_30 CX hK hsz (hK4 := ih) N y1 y3 (jabsL (numbers y3.toNatClampNeg)) 0 _ _ _ h hP hD hS (lv_sub hl [2, 3, 4, 1, 0] rfl)
end G_X4_commonDivisor
set_option maxHeartbeats 4000000 in
set_option maxRecDepth 100000 in
theorem c_X4_commonDivisor (l : Launch) (D : va_G) (cI cJ cB : ClassId) (a0 a_numbers : Nat) (sz : Nat) (numbers : Nat → Int64) (N : Nat) {z : Int64} (h : f_X4_commonDivisor N numbers = some z) : Mg l yX4_commonDivisor cX4_commonDivisor 9 (some .long) rm_X4_commonDivisor D (ty0 cI cJ cB) [.ref a0] sz (ws_X4_commonDivisor cI cJ cB a0 a_numbers numbers) (some (.long z)) (ws_X4_commonDivisor cI cJ cB a0 a_numbers numbers) := by
  refine Mg.of (by decide) (Nat.le_of_ble_eq_true rfl) ?_
  intro p e s m below meth c CX hK hsz hP hD ls hl
  have CX : Cx p m c cX4_commonDivisor 9 s ([.ref a0] : List Value).toArray (Cond.code yX4_commonDivisor cX4_commonDivisor 9 (some .long)) RX4 meth (some .long) := CX
  obtain ⟨F, hr, hlk, hNw⟩ := id CX
  have hx := F.1
  have hb := F.2.1
  have hown := F.2.2.2.1
  have hl : lv_has ls 9 [(0, .ref a0)] := hl
  have hS : va_S (va_A (ws_X4_commonDivisor cI cJ cB a0 a_numbers numbers) sz) s.heap s.heap [] := va_S.rf
  have hA : ∀ q, s.heap.size ≤ q → va_A (ws_X4_commonDivisor cI cJ cB a0 a_numbers numbers) sz q := fun q hq => Or.inr (hsz ▸ hq)
  unfold f_X4_commonDivisor at h
  refine lv_lconst (v := 0) hx hb dX4_commonDivisor_0 (by decide) ?_
  refine lv_lstore_n (lv' := [(1, .long 0), (0, .ref a0)]) hx hb dX4_commonDivisor_1 rfl hl (by decide) rfl (fun ls hl => ?_)
  refine lv_iconst (v := 0) hx hb dX4_commonDivisor_2 (by decide) ?_
  refine lv_istore_n (lv' := [(3, .int 0), (1, .long 0), (0, .ref a0)]) hx hb dX4_commonDivisor_3 rfl hl (by decide) rfl (fun ls hl => ?_)
  exact w_X4_commonDivisor_4 CX hK hsz N 0 0 _ _ _ h hP hD hS (lv_sub hl [2, 1, 0] rfl)
section G_J7_fill_fda19
abbrev ws_J7_fill_fda19 (cI cJ cB : ClassId) (a_p1 : Nat) (p1 : Nat → Int32) (p1_n : Nat) : va_W := [(a_p1, .inl (cI, p1_n, .inl p1))]
abbrev rm_J7_fill_fda19 : Room := { frames := 1, cells := 0, slots := 0, locals := 22 }
def f_J7_fill_fda19_10 (N : Nat) : Nat → (Nat → Int32) → Nat → Int32 → Int32 → Int32 → Option ((Nat → Int32))
  | 0 => fun _ _ _ _ _ => none
  | n + 1 => fun p1 p1_n y2 y3 y4 => ifb (y2 ≤ y4) (some p1) (ix y4 p1_n (f_J7_fill_fda19_10 N n (upd p1 y4.toNatClampNeg y3) p1_n y2 y3 (y4 + 1)))
def f_J7_fill_fda19 (N : Nat) (p1 : Nat → Int32) (p1_n : Nat) (x2 : Int32) (x3 : Int32) (x4 : Int32) : Option ((Nat → Int32)) := (f_J7_rangeCheck_23922 N (Int32.ofNat p1_n) x2 x3).bind (fun z4 => f_J7_fill_fda19_10 N N p1 p1_n x3 x4 x2)
variable {p : Program} {l : Launch} {e : Env} {s : State} {m : MethodId} {below : List Frame} {meth : Method} {c : Code} {args : Array Value} {x0 : Cond} {D : va_G} {cI cJ cB : ClassId} {sz N : Nat} {ws0 : va_W} {a_p1 : Nat} {p1_n : Nat} {z : (Nat → Int32)}
set_option maxHeartbeats 4000000 in
set_option maxRecDepth 100000 in
theorem w_J7_fill_fda19_10 (CX : Cx p m c cJ7_fill_fda19 5 s args x0 RJ7 meth none) (hK : va_K D vwCl (ty0 cI cJ cB) s) (hsz : s.heap.size = sz) : ∀ (n : Nat), ∀ (p1 : Nat → Int32) (y2 : Int32) (y3 : Int32) (y4 : Int32) (H : Heap) (locs : List Loc) (ls : Array Slot), f_J7_fill_fda19_10 N n p1 p1_n y2 y3 y4 = some z → va_P D vwCl (ws_J7_fill_fda19 cI cJ cB a_p1 p1 p1_n) H → va_D (va_A ws0 sz) (ws_J7_fill_fda19 cI cJ cB a_p1 p1 p1_n) → va_S (va_A ws0 sz) s.heap H locs → lv_has ls 5 [(0, .ref a_p1), (2, .int y2), (3, .int y3), (4, .int y4)] → W p l e rm_J7_fill_fda19 s m args below meth c H locs 0 0 (MQ below (gQ D sz ws0 (ws_J7_fill_fda19 cI cJ cB a_p1 z p1_n) none) args s 0 0 (va_A ws0 sz)) (F0 m 10 ls []) := by
  obtain ⟨F, hr, hlk, hNw⟩ := id CX
  have hx := F.1
  have hb := F.2.1
  have hown := F.2.2.2.1
  have hA : ∀ q, s.heap.size ≤ q → va_A ws0 sz q := fun q hq => Or.inr (hsz ▸ hq)
  intro n
  induction n with
  | zero =>
    intro p1 y2 y3 y4 H locs ls h
    cases h
  | succ n ih =>
    intro p1 y2 y3 y4 H locs ls h hP hD hS hl
    unfold f_J7_fill_fda19_10 at h
    refine lv_iload hx hb dJ7_fill_fda19_10 (lv_at hl 3 rfl) ?_
    refine lv_iload_n hx hb dJ7_fill_fda19_12 rfl (lv_at hl 1 rfl) ?_
    refine lv_icmp_ge (tgt := 27) hx hb dJ7_fill_fda19_13 (by decide) (fun c13 => ?_) (fun c13 => ?_)
    · have h := o_t c13 h
      obtain rfl := Option.some.inj h
      exact r_vret F hr hlk dJ7_fill_fda19_27 hsz hP hD hS
    · have h := o_f c13 h
      refine lv_aload_n hx hb dJ7_fill_fda19_16 rfl (lv_at hl 0 rfl) ?_
      refine lv_iload hx hb dJ7_fill_fda19_17 (lv_at hl 3 rfl) ?_
      refine lv_iload_n hx hb dJ7_fill_fda19_19 rfl (lv_at hl 2 rfl) ?_
      obtain ⟨hi20, h⟩ := o_ix h
      refine r_iast (wn := (ws_J7_fill_fda19 cI cJ cB a_p1 (upd p1 y4.toNatClampNeg y3) p1_n)) F hK hP hD hS 0 0 hi20 rfl rfl rfl dJ7_fill_fda19_20 (fun H locs hP hD hS => ?_)
      refine lv_iinc (v := y4 + 1) (lv' := [(4, .int (y4 + 1)), (0, .ref a_p1), (2, .int y2), (3, .int y3)]) hx hb dJ7_fill_fda19_21 hl (k := 3) rfl rfl (by decide) rfl (fun ls hl => ?_)
      refine lv_goto (tgt := 10) hx hb dJ7_fill_fda19_24 (by decide) ?_
      exact ih (upd p1 y4.toNatClampNeg y3) y2 y3 (y4 + 1) _ _ _ h hP hD hS (lv_sub hl [1, 2, 3, 0] rfl)
end G_J7_fill_fda19
set_option maxHeartbeats 4000000 in
set_option maxRecDepth 100000 in
theorem c_J7_fill_fda19 (l : Launch) (D : va_G) (cI cJ cB : ClassId) (a_p1 : Nat) (sz : Nat) (p1 : Nat → Int32) (p1_n : Nat) (x2 : Int32) (x3 : Int32) (x4 : Int32) (N : Nat) {z : (Nat → Int32)} (h : f_J7_fill_fda19 N p1 p1_n x2 x3 x4 = some z) : Mg l yJ7_fill_fda19 cJ7_fill_fda19 5 none rm_J7_fill_fda19 D (ty0 cI cJ cB) [.ref a_p1, .int x2, .int x3, .int x4] sz (ws_J7_fill_fda19 cI cJ cB a_p1 p1 p1_n) none (ws_J7_fill_fda19 cI cJ cB a_p1 z p1_n) := by
  refine Mg.of (by decide) (Nat.le_of_ble_eq_true rfl) ?_
  intro p e s m below meth c CX hK hsz hP hD ls hl
  have CX : Cx p m c cJ7_fill_fda19 5 s ([.ref a_p1, .int x2, .int x3, .int x4] : List Value).toArray (Cond.code yJ7_fill_fda19 cJ7_fill_fda19 5 none) RJ7 meth none := CX
  obtain ⟨F, hr, hlk, hNw⟩ := id CX
  have hx := F.1
  have hb := F.2.1
  have hown := F.2.2.2.1
  have hl : lv_has ls 5 [(0, .ref a_p1), (1, .int x2), (2, .int x3), (3, .int x4)] := hl
  have hS : va_S (va_A (ws_J7_fill_fda19 cI cJ cB a_p1 p1 p1_n) sz) s.heap s.heap [] := va_S.rf
  have hA : ∀ q, s.heap.size ≤ q → va_A (ws_J7_fill_fda19 cI cJ cB a_p1 p1 p1_n) sz q := fun q hq => Or.inr (hsz ▸ hq)
  unfold f_J7_fill_fda19 at h
  refine lv_aload_n hx hb dJ7_fill_fda19_0 rfl (lv_at hl 0 rfl) ?_
  refine va_alen (v := (Int32.ofNat p1_n)) hx hb hK hP 0 0 rfl rfl rfl dJ7_fill_fda19_1 ?_
  refine lv_iload_n hx hb dJ7_fill_fda19_2 rfl (lv_at hl 1 rfl) ?_
  refine lv_iload_n hx hb dJ7_fill_fda19_3 rfl (lv_at hl 2 rfl) ?_
  obtain ⟨z4, hz4, h⟩ := o_b h
  refine k_s (wn := (ws_J7_fill_fda19 cI cJ cB a_p1 p1 p1_n)) (As := [.int (Int32.ofNat p1_n), .int x2, .int x3]) (rest := []) F hNw hK hP hD hS hA (c_J7_rangeCheck_23922 l D cI cJ cB _ (Int32.ofNat p1_n) x2 x3 N hz4) wm_276 cs_J7_rangeCheck_23922 [] [0] [0] (⟨rfl, rfl, rfl, by decide, rfl⟩ : Ix [] [0] [0] 1) rfl rfl rfl ⟨rfl, rfl, by decide, by decide⟩ hl.1 rfl (Nat.le_of_ble_eq_true rfl) ⟨Nat.zero_le _, Nat.zero_le _⟩ dJ7_fill_fda19_4 (fun H locs hP hD hS => ?_)
  refine lv_iload_n hx hb dJ7_fill_fda19_7 rfl (lv_at hl 1 rfl) ?_
  refine lv_istore (lv' := [(4, .int x2), (0, .ref a_p1), (1, .int x2), (2, .int x3), (3, .int x4)]) hx hb dJ7_fill_fda19_8 hl (by decide) rfl (fun ls hl => ?_)
  exact w_J7_fill_fda19_10 CX hK hsz N p1 x3 x4 x2 _ _ _ h hP hD hS (lv_sub hl [1, 3, 4, 0] rfl)
section G_X5_add
abbrev ws_X5_add (cI cJ cB : ClassId) (a0 a_cells : Nat) (rows : Int32) (cells : Nat → Int32) (cells_n : Nat) : va_W := [(a0, .inr (7, [.ref a_cells, .int rows])), (a_cells, .inl (cI, cells_n, .inl cells))]
abbrev rm_X5_add : Room := { frames := 2, cells := 0, slots := 0, locals := 46 }
def f_X5_add_50 (N : Nat) (rows : Int32) (cells : Nat → Int32) (cells_n : Nat) : Option ((Int32) × (Nat → Int32)) := some (rows, cells)
def f_X5_add (N : Nat) (rows : Int32) (cells : Nat → Int32) (cells_n : Nat) (x1 : Int32) : Option ((Int32) × (Nat → Int32)) := ifb ((Int32.ofNat cells_n) < ((rows * 10) + 10)) (f_X5_add_50 N rows cells cells_n) ((f_J7_fill_fda19 N cells cells_n (rows * 10) ((rows * 10) + 10) 0).bind (fun z30 => ix (rows * 10) cells_n (f_X5_add_50 N (rows + 1) (upd z30 (rows * 10).toNatClampNeg x1) cells_n)))
variable {p : Program} {l : Launch} {e : Env} {s : State} {m : MethodId} {below : List Frame} {meth : Method} {c : Code} {args : Array Value} {x0 : Cond} {D : va_G} {cI cJ cB : ClassId} {sz N : Nat} {ws0 : va_W} {a0 a_cells : Nat} {cells_n : Nat} {z : (Int32) × (Nat → Int32)}
set_option maxHeartbeats 4000000 in
set_option maxRecDepth 100000 in
theorem w_X5_add_50 (CX : Cx p m c cX5_add 3 s args x0 RX5 meth none) (hK : va_K D vwCl (ty0 cI cJ cB) s) (hsz : s.heap.size = sz) : ∀ (rows : Int32) (cells : Nat → Int32) (H : Heap) (locs : List Loc) (ls : Array Slot), f_X5_add_50 N rows cells cells_n = some z → va_P D vwCl (ws_X5_add cI cJ cB a0 a_cells rows cells cells_n) H → va_D (va_A ws0 sz) (ws_X5_add cI cJ cB a0 a_cells rows cells cells_n) → va_S (va_A ws0 sz) s.heap H locs → lv_has ls 3 [] → W p l e rm_X5_add s m args below meth c H locs 0 0 (MQ below (gQ D sz ws0 (ws_X5_add cI cJ cB a0 a_cells z.1 z.2 cells_n) none) args s 0 0 (va_A ws0 sz)) (F0 m 50 ls []) := by
  obtain ⟨F, hr, hlk, hNw⟩ := id CX
  have hx := F.1
  have hb := F.2.1
  have hown := F.2.2.2.1
  have hA : ∀ q, s.heap.size ≤ q → va_A ws0 sz q := fun q hq => Or.inr (hsz ▸ hq)
  intro rows cells H locs ls h hP hD hS hl
  unfold f_X5_add_50 at h
  obtain rfl := Option.some.inj h
  exact r_vret F hr hlk dX5_add_50 hsz hP hD hS
end G_X5_add
set_option maxHeartbeats 4000000 in
set_option maxRecDepth 100000 in
theorem c_X5_add (l : Launch) (D : va_G) (cI cJ cB : ClassId) (a0 a_cells : Nat) (sz : Nat) (rows : Int32) (cells : Nat → Int32) (cells_n : Nat) (x1 : Int32) (N : Nat) {z : (Int32) × (Nat → Int32)} (h : f_X5_add N rows cells cells_n x1 = some z) : Mg l yX5_add cX5_add 3 none rm_X5_add D (ty0 cI cJ cB) [.ref a0, .int x1] sz (ws_X5_add cI cJ cB a0 a_cells rows cells cells_n) none (ws_X5_add cI cJ cB a0 a_cells z.1 z.2 cells_n) := by
  refine Mg.of (by decide) (Nat.le_of_ble_eq_true rfl) ?_
  intro p e s m below meth c CX hK hsz hP hD ls hl
  have CX : Cx p m c cX5_add 3 s ([.ref a0, .int x1] : List Value).toArray (Cond.code yX5_add cX5_add 3 none) RX5 meth none := CX
  obtain ⟨F, hr, hlk, hNw⟩ := id CX
  have hx := F.1
  have hb := F.2.1
  have hown := F.2.2.2.1
  have hl : lv_has ls 3 [(0, .ref a0), (1, .int x1)] := hl
  have hS : va_S (va_A (ws_X5_add cI cJ cB a0 a_cells rows cells cells_n) sz) s.heap s.heap [] := va_S.rf
  have hA : ∀ q, s.heap.size ≤ q → va_A (ws_X5_add cI cJ cB a0 a_cells rows cells cells_n) sz q := fun q hq => Or.inr (hsz ▸ hq)
  unfold f_X5_add at h
  refine lv_aload_n hx hb dX5_add_0 rfl (lv_at hl 0 rfl) ?_
  refine r_get F hK hP 0 1 rfl inW_X5 wm_126 rfl (by decide) rfl dX5_add_1 ?_
  refine lv_bipush (v := 10) hx hb dX5_add_4 (by decide) ?_
  refine lv_imul hx hb dX5_add_6 ?_
  refine lv_istore_n (lv' := [(2, .int (rows * 10)), (0, .ref a0), (1, .int x1)]) hx hb dX5_add_7 rfl hl (by decide) rfl (fun ls hl => ?_)
  refine lv_iload_n hx hb dX5_add_8 rfl (lv_at hl 0 rfl) ?_
  refine lv_bipush (v := 10) hx hb dX5_add_9 (by decide) ?_
  refine lv_iadd hx hb dX5_add_11 ?_
  refine lv_aload_n hx hb dX5_add_12 rfl (lv_at hl 1 rfl) ?_
  refine r_get F hK hP 0 0 rfl inW_X5 wm_125 rfl (by decide) rfl dX5_add_13 ?_
  refine va_alen (v := (Int32.ofNat cells_n)) hx hb hK hP 1 0 rfl rfl rfl dX5_add_16 ?_
  refine lv_icmp_gt (tgt := 50) hx hb dX5_add_17 (by decide) (fun c17 => ?_) (fun c17 => ?_)
  · have h := o_t c17 h
    exact w_X5_add_50 CX hK hsz rows cells _ _ _ h hP hD hS (lv_sub hl [] rfl)
  · have h := o_f c17 h
    refine lv_aload_n hx hb dX5_add_20 rfl (lv_at hl 1 rfl) ?_
    refine r_get F hK hP 0 0 rfl inW_X5 wm_125 rfl (by decide) rfl dX5_add_21 ?_
    refine lv_iload_n hx hb dX5_add_24 rfl (lv_at hl 0 rfl) ?_
    refine lv_iload_n hx hb dX5_add_25 rfl (lv_at hl 0 rfl) ?_
    refine lv_bipush (v := 10) hx hb dX5_add_26 (by decide) ?_
    refine lv_iadd hx hb dX5_add_28 ?_
    refine lv_iconst (v := 0) hx hb dX5_add_29 (by decide) ?_
    obtain ⟨z30, hz30, h⟩ := o_b h
    refine k_s (wn := (ws_X5_add cI cJ cB a0 a_cells rows z30 cells_n)) (As := [.ref a_cells, .int (rows * 10), .int ((rows * 10) + 10), .int 0]) (rest := []) F hNw hK hP hD hS hA (c_J7_fill_fda19 l D cI cJ cB a_cells _ cells cells_n (rows * 10) ((rows * 10) + 10) 0 N hz30) wm_273 cs_J7_fill_fda19 [1] [0] [0, 1] (⟨rfl, rfl, rfl, by decide, rfl⟩ : Ix [1] [0] [0, 1] 2) rfl rfl rfl ⟨rfl, rfl, by decide, by decide⟩ hl.1 rfl (Nat.le_of_ble_eq_true rfl) ⟨Nat.zero_le _, Nat.zero_le _⟩ dX5_add_30 (fun H locs hP hD hS => ?_)
    refine lv_aload_n hx hb dX5_add_33 rfl (lv_at hl 1 rfl) ?_
    refine r_get F hK hP 0 0 rfl inW_X5 wm_125 rfl (by decide) rfl dX5_add_34 ?_
    refine lv_iload_n hx hb dX5_add_37 rfl (lv_at hl 0 rfl) ?_
    refine lv_iload_n hx hb dX5_add_38 rfl (lv_at hl 2 rfl) ?_
    obtain ⟨hi39, h⟩ := o_ix h
    refine r_iast (wn := (ws_X5_add cI cJ cB a0 a_cells rows (upd z30 (rows * 10).toNatClampNeg x1) cells_n)) F hK hP hD hS 1 0 hi39 rfl rfl rfl dX5_add_39 (fun H locs hP hD hS => ?_)
    refine lv_aload_n hx hb dX5_add_40 rfl (lv_at hl 1 rfl) ?_
    refine lv_dup hx hb dX5_add_41 rfl ?_
    refine r_get F hK hP 0 1 rfl inW_X5 wm_126 rfl (by decide) rfl dX5_add_42 ?_
    refine lv_iconst (v := 1) hx hb dX5_add_45 (by decide) ?_
    refine lv_iadd hx hb dX5_add_46 ?_
    refine r_put (wn := (ws_X5_add cI cJ cB a0 a_cells (rows + 1) (upd z30 (rows * 10).toNatClampNeg x1) cells_n)) F hK hP hD hS 0 1 rfl inW_X5 wm_126 tyX5_ok nmX5 rfl rfl (by decide) rfl rfl (Nat.le_of_ble_eq_true rfl) rfl dX5_add_47 (fun H locs hP hD hS => ?_)
    exact w_X5_add_50 CX hK hsz (rows + 1) (upd z30 (rows * 10).toNatClampNeg x1) _ _ _ h hP hD hS (lv_sub hl [] rfl)
section G_X4_settle
abbrev ws_X4_settle (cI cJ cB : ClassId) (a0 a_numbers : Nat) (numbers : Nat → Int64) : va_W := [(a0, .inr (6, [.ref a_numbers])), (a_numbers, .inl (cJ, 9, .inr (.inl numbers)))]
abbrev rm_X4_settle : Room := { frames := 2, cells := 0, slots := 0, locals := 51 }
def f_X4_settle_50 (N : Nat) (numbers : Nat → Int64) (s0 : Int32) : Option (Int32 × (Nat → Int64)) := some (s0, numbers)
def f_X4_settle_150 (N : Nat) (numbers : Nat → Int64) (y1 : Int32) : Option (Int32 × (Nat → Int64)) := some (y1, numbers)
def f_X4_settle_135 (N : Nat) (numbers : Nat → Int64) (y1 : Int32) (y2 : Int32) : Option (Int32 × (Nat → Int64)) := ix y2 9 (ifb (0 ≤ (lg_cmp (numbers y2.toNatClampNeg) 0)) (f_X4_settle_150 N numbers y1) ((f_X4_turn N numbers).bind (fun z147 => f_X4_settle_150 N z147 y1)))
def f_X4_settle_92 (N : Nat) : Nat → (Nat → Int64) → Int32 → Int32 → Int32 → Option (Int32 × (Nat → Int64))
  | 0 => fun _ _ _ _ => none
  | n + 1 => fun numbers y1 y2 y5 => ifb (9 ≤ y5) (ifb (y1 = 2) (f_X4_settle_135 N numbers y1 y2) (ifb (y1 = 3) (f_X4_settle_135 N numbers y1 y2) (f_X4_settle_150 N numbers y1))) (ix y5 9 (ifb ((lg_cmp (jabsL (numbers y5.toNatClampNeg)) 1000000000) ≤ 0) (f_X4_settle_92 N n numbers y1 y2 (y5 + 1)) (some ((-2), numbers))))
def f_X4_settle_89 (N : Nat) (numbers : Nat → Int64) (y1 : Int32) (y2 : Int32) : Option (Int32 × (Nat → Int64)) := f_X4_settle_92 N N numbers y1 y2 0
def f_X4_settle_65 (N : Nat) : Nat → (Nat → Int64) → Int32 → Int32 → Int64 → Int32 → Option (Int32 × (Nat → Int64))
  | 0 => fun _ _ _ _ _ => none
  | n + 1 => fun numbers y1 y2 y3 y5 => ifb (9 ≤ y5) (f_X4_settle_89 N numbers y1 y2) (ix y5 9 (ckp (¬ y3 = 0) (ix y5 9 (f_X4_settle_65 N n (vp_updL numbers y5.toNatClampNeg ((numbers y5.toNatClampNeg) / y3)) y1 y2 y3 (y5 + 1)))))
def f_X4_settle_25 (N : Nat) (numbers : Nat → Int64) (y1 : Int32) (y2 : Int32) : Option (Int32 × (Nat → Int64)) := ifb (y2 = 8) (ix 8 9 ((f_X4_isTrue N y1 (numbers (8 : Int32).toNatClampNeg)).bind (fun z39 => ifb (z39 = 0) (f_X4_settle_50 N numbers 1) (f_X4_settle_50 N numbers 0)))) ((f_X4_commonDivisor N numbers).bind (fun z52 => ifb ((lg_cmp z52 1) ≤ 0) (f_X4_settle_89 N numbers y1 y2) (f_X4_settle_65 N N numbers y1 y2 z52 0)))
def f_X4_settle_2 (N : Nat) : Nat → (Nat → Int64) → Int32 → Int32 → Option (Int32 × (Nat → Int64))
  | 0 => fun _ _ _ => none
  | n + 1 => fun numbers y1 y2 => ifb (8 ≤ y2) (f_X4_settle_25 N numbers y1 y2) (ix y2 9 (ifb ((lg_cmp (numbers y2.toNatClampNeg) 0) = 0) (f_X4_settle_2 N n numbers y1 (y2 + 1)) (f_X4_settle_25 N numbers y1 y2)))
def f_X4_settle (N : Nat) (numbers : Nat → Int64) (x1 : Int32) : Option (Int32 × (Nat → Int64)) := f_X4_settle_2 N N numbers x1 0
variable {p : Program} {l : Launch} {e : Env} {s : State} {m : MethodId} {below : List Frame} {meth : Method} {c : Code} {args : Array Value} {x0 : Cond} {D : va_G} {cI cJ cB : ClassId} {sz N : Nat} {ws0 : va_W} {a0 a_numbers : Nat} {z : Int32 × (Nat → Int64)}
set_option maxHeartbeats 4000000 in
set_option maxRecDepth 100000 in
theorem w_X4_settle_50 (CX : Cx p m c cX4_settle 6 s args x0 RX4 meth (some .int)) (hK : va_K D vwCl (ty0 cI cJ cB) s) (hsz : s.heap.size = sz) : ∀ (numbers : Nat → Int64) (s0 : Int32) (H : Heap) (locs : List Loc) (ls : Array Slot), f_X4_settle_50 N numbers s0 = some z → va_P D vwCl (ws_X4_settle cI cJ cB a0 a_numbers numbers) H → va_D (va_A ws0 sz) (ws_X4_settle cI cJ cB a0 a_numbers numbers) → va_S (va_A ws0 sz) s.heap H locs → lv_has ls 6 [] → W p l e rm_X4_settle s m args below meth c H locs 0 0 (MQ below (gQ D sz ws0 (ws_X4_settle cI cJ cB a0 a_numbers z.2) (some (.int z.1))) args s 0 0 (va_A ws0 sz)) (F0 m 50 ls [.int s0]) := by
  obtain ⟨F, hr, hlk, hNw⟩ := id CX
  have hx := F.1
  have hb := F.2.1
  have hown := F.2.2.2.1
  have hA : ∀ q, s.heap.size ≤ q → va_A ws0 sz q := fun q hq => Or.inr (hsz ▸ hq)
  intro numbers s0 H locs ls h hP hD hS hl
  unfold f_X4_settle_50 at h
  obtain rfl := Option.some.inj h
  exact r_ret (v := s0) F hr hlk rfl dX4_settle_50 hsz hP hD hS
set_option maxHeartbeats 4000000 in
set_option maxRecDepth 100000 in
theorem w_X4_settle_150 (CX : Cx p m c cX4_settle 6 s args x0 RX4 meth (some .int)) (hK : va_K D vwCl (ty0 cI cJ cB) s) (hsz : s.heap.size = sz) : ∀ (numbers : Nat → Int64) (y1 : Int32) (H : Heap) (locs : List Loc) (ls : Array Slot), f_X4_settle_150 N numbers y1 = some z → va_P D vwCl (ws_X4_settle cI cJ cB a0 a_numbers numbers) H → va_D (va_A ws0 sz) (ws_X4_settle cI cJ cB a0 a_numbers numbers) → va_S (va_A ws0 sz) s.heap H locs → lv_has ls 6 [(1, .int y1)] → W p l e rm_X4_settle s m args below meth c H locs 0 0 (MQ below (gQ D sz ws0 (ws_X4_settle cI cJ cB a0 a_numbers z.2) (some (.int z.1))) args s 0 0 (va_A ws0 sz)) (F0 m 150 ls []) := by
  obtain ⟨F, hr, hlk, hNw⟩ := id CX
  have hx := F.1
  have hb := F.2.1
  have hown := F.2.2.2.1
  have hA : ∀ q, s.heap.size ≤ q → va_A ws0 sz q := fun q hq => Or.inr (hsz ▸ hq)
  intro numbers y1 H locs ls h hP hD hS hl
  unfold f_X4_settle_150 at h
  refine lv_iload_n hx hb dX4_settle_150 rfl (lv_at hl 0 rfl) ?_
  obtain rfl := Option.some.inj h
  exact r_ret (v := y1) F hr hlk rfl dX4_settle_151 hsz hP hD hS
set_option maxHeartbeats 4000000 in
set_option maxRecDepth 100000 in
theorem w_X4_settle_135 (CX : Cx p m c cX4_settle 6 s args x0 RX4 meth (some .int)) (hK : va_K D vwCl (ty0 cI cJ cB) s) (hsz : s.heap.size = sz) : ∀ (numbers : Nat → Int64) (y1 : Int32) (y2 : Int32) (H : Heap) (locs : List Loc) (ls : Array Slot), f_X4_settle_135 N numbers y1 y2 = some z → va_P D vwCl (ws_X4_settle cI cJ cB a0 a_numbers numbers) H → va_D (va_A ws0 sz) (ws_X4_settle cI cJ cB a0 a_numbers numbers) → va_S (va_A ws0 sz) s.heap H locs → lv_has ls 6 [(0, .ref a0), (1, .int y1), (2, .int y2)] → W p l e rm_X4_settle s m args below meth c H locs 0 0 (MQ below (gQ D sz ws0 (ws_X4_settle cI cJ cB a0 a_numbers z.2) (some (.int z.1))) args s 0 0 (va_A ws0 sz)) (F0 m 135 ls []) := by
  obtain ⟨F, hr, hlk, hNw⟩ := id CX
  have hx := F.1
  have hb := F.2.1
  have hown := F.2.2.2.1
  have hA : ∀ q, s.heap.size ≤ q → va_A ws0 sz q := fun q hq => Or.inr (hsz ▸ hq)
  intro numbers y1 y2 H locs ls h hP hD hS hl
  unfold f_X4_settle_135 at h
  refine lv_aload_n hx hb dX4_settle_135 rfl (lv_at hl 0 rfl) ?_
  refine r_get F hK hP 0 0 rfl inW_X4 wm_159 rfl (by decide) rfl dX4_settle_136 ?_
  refine lv_iload_n hx hb dX4_settle_139 rfl (lv_at hl 2 rfl) ?_
  obtain ⟨hi140, h⟩ := o_ix h
  refine va_lald hx hb hK hP 1 1 rfl rfl hi140 dX4_settle_140 ?_
  refine lv_lconst (v := 0) hx hb dX4_settle_141 (by decide) ?_
  refine W.lcmp hx hb dX4_settle_142 ?_
  refine lv_if_ge (tgt := 150) hx hb dX4_settle_143 (by decide) (fun c143 => ?_) (fun c143 => ?_)
  · have h := o_t c143 h
    exact w_X4_settle_150 CX hK hsz numbers y1 _ _ _ h hP hD hS (lv_sub hl [1] rfl)
  · have h := o_f c143 h
    refine lv_aload_n hx hb dX4_settle_146 rfl (lv_at hl 0 rfl) ?_
    obtain ⟨z147, hz147, h⟩ := o_b h
    refine k_v (wn := (ws_X4_settle cI cJ cB a0 a_numbers z147)) (As := []) (rest := []) F hNw hK hP hD hS hA (c_X4_turn l D cI cJ cB a0 a_numbers _ numbers N hz147) wm_728 cv_X4_turn [0, 1] [] [0, 1] (⟨rfl, rfl, rfl, by decide, rfl⟩ : Ix [0, 1] [] [0, 1] 2) rfl rfl rfl rfl rfl rfl ⟨rfl, rfl, by decide, by decide⟩ hl.1 rfl (Nat.le_of_ble_eq_true rfl) ⟨Nat.zero_le _, Nat.zero_le _⟩ dX4_settle_147 (fun H locs hP hD hS => ?_)
    exact w_X4_settle_150 CX hK hsz z147 y1 _ _ _ h hP hD hS (lv_sub hl [1] rfl)
set_option maxHeartbeats 4000000 in
set_option maxRecDepth 100000 in
theorem w_X4_settle_92 (CX : Cx p m c cX4_settle 6 s args x0 RX4 meth (some .int)) (hK : va_K D vwCl (ty0 cI cJ cB) s) (hsz : s.heap.size = sz) : ∀ (n : Nat), ∀ (numbers : Nat → Int64) (y1 : Int32) (y2 : Int32) (y5 : Int32) (H : Heap) (locs : List Loc) (ls : Array Slot), f_X4_settle_92 N n numbers y1 y2 y5 = some z → va_P D vwCl (ws_X4_settle cI cJ cB a0 a_numbers numbers) H → va_D (va_A ws0 sz) (ws_X4_settle cI cJ cB a0 a_numbers numbers) → va_S (va_A ws0 sz) s.heap H locs → lv_has ls 6 [(0, .ref a0), (1, .int y1), (2, .int y2), (5, .int y5)] → W p l e rm_X4_settle s m args below meth c H locs 0 0 (MQ below (gQ D sz ws0 (ws_X4_settle cI cJ cB a0 a_numbers z.2) (some (.int z.1))) args s 0 0 (va_A ws0 sz)) (F0 m 92 ls []) := by
  obtain ⟨F, hr, hlk, hNw⟩ := id CX
  have hx := F.1
  have hb := F.2.1
  have hown := F.2.2.2.1
  have hA : ∀ q, s.heap.size ≤ q → va_A ws0 sz q := fun q hq => Or.inr (hsz ▸ hq)
  intro n
  induction n with
  | zero =>
    intro numbers y1 y2 y5 H locs ls h
    cases h
  | succ n ih =>
    intro numbers y1 y2 y5 H locs ls h hP hD hS hl
    unfold f_X4_settle_92 at h
    refine lv_iload hx hb dX4_settle_92 (lv_at hl 3 rfl) ?_
    refine lv_bipush (v := 9) hx hb dX4_settle_94 (by decide) ?_
    refine lv_icmp_ge (tgt := 125) hx hb dX4_settle_96 (by decide) (fun c96 => ?_) (fun c96 => ?_)
    · have h := o_t c96 h
      refine lv_iload_n hx hb dX4_settle_125 rfl (lv_at hl 1 rfl) ?_
      refine lv_iconst (v := 2) hx hb dX4_settle_126 (by decide) ?_
      refine lv_icmp_eq (tgt := 135) hx hb dX4_settle_127 (by decide) (fun c127 => ?_) (fun c127 => ?_)
      · have h := o_t c127 h
        exact w_X4_settle_135 CX hK hsz numbers y1 y2 _ _ _ h hP hD hS (lv_sub hl [0, 1, 2] rfl)
      · have h := o_f c127 h
        refine lv_iload_n hx hb dX4_settle_130 rfl (lv_at hl 1 rfl) ?_
        refine lv_iconst (v := 3) hx hb dX4_settle_131 (by decide) ?_
        refine lv_icmp_ne (tgt := 150) hx hb dX4_settle_132 (by decide) (fun c132 => ?_) (fun c132 => ?_)
        · have h := o_f c132 h
          exact w_X4_settle_150 CX hK hsz numbers y1 _ _ _ h hP hD hS (lv_sub hl [1] rfl)
        · have h := o_t c132 h
          exact w_X4_settle_135 CX hK hsz numbers y1 y2 _ _ _ h hP hD hS (lv_sub hl [0, 1, 2] rfl)
    · have h := o_f c96 h
      refine lv_aload_n hx hb dX4_settle_99 rfl (lv_at hl 0 rfl) ?_
      refine r_get F hK hP 0 0 rfl inW_X4 wm_159 rfl (by decide) rfl dX4_settle_100 ?_
      refine lv_iload hx hb dX4_settle_103 (lv_at hl 3 rfl) ?_
      obtain ⟨hi105, h⟩ := o_ix h
      refine va_lald hx hb hK hP 1 1 rfl rfl hi105 dX4_settle_105 ?_
      refine va_mabs_long hx hb (F.2.2.1.trans hl.1.symm) hown (F.2.2.2.2 _ (q_in wm_724)) (F.2.2.2.2 _ (q_in wm_725)) (F.2.2.2.2 _ (q_in wm_75)) (F.2.2.2.2 _ (q_in wm_726)) (Nat.le_of_ble_eq_true rfl) (Nat.le_of_ble_eq_true rfl) (Nat.zero_le _) (Nat.zero_le _) dX4_settle_106 ?_
      refine lv_ldc2 (v := 1000000000) hx hb hown (F.2.2.2.2 _ (q_in wm_727)) dX4_settle_109 ?_
      refine W.lcmp hx hb dX4_settle_112 ?_
      refine lv_if_le (tgt := 119) hx hb dX4_settle_113 (by decide) (fun c113 => ?_) (fun c113 => ?_)
      · have h := o_t c113 h
        refine lv_iinc (v := y5 + 1) (lv' := [(5, .int (y5 + 1)), (0, .ref a0), (1, .int y1), (2, .int y2)]) hx hb dX4_settle_119 hl (k := 3) rfl rfl (by decide) rfl (fun ls hl => ?_)
        refine lv_goto (tgt := 92) hx hb dX4_settle_122 (by decide) ?_
        exact ih numbers y1 y2 (y5 + 1) _ _ _ h hP hD hS (lv_sub hl [1, 2, 3, 0] rfl)
      · have h := o_f c113 h
        refine lv_bipush (v := (-2)) hx hb dX4_settle_116 (by decide) ?_
        obtain rfl := Option.some.inj h
        exact r_ret (v := (-2)) F hr hlk rfl dX4_settle_118 hsz hP hD hS
set_option maxHeartbeats 4000000 in
set_option maxRecDepth 100000 in
theorem w_X4_settle_89 (CX : Cx p m c cX4_settle 6 s args x0 RX4 meth (some .int)) (hK : va_K D vwCl (ty0 cI cJ cB) s) (hsz : s.heap.size = sz) : ∀ (numbers : Nat → Int64) (y1 : Int32) (y2 : Int32) (H : Heap) (locs : List Loc) (ls : Array Slot), f_X4_settle_89 N numbers y1 y2 = some z → va_P D vwCl (ws_X4_settle cI cJ cB a0 a_numbers numbers) H → va_D (va_A ws0 sz) (ws_X4_settle cI cJ cB a0 a_numbers numbers) → va_S (va_A ws0 sz) s.heap H locs → lv_has ls 6 [(0, .ref a0), (1, .int y1), (2, .int y2)] → W p l e rm_X4_settle s m args below meth c H locs 0 0 (MQ below (gQ D sz ws0 (ws_X4_settle cI cJ cB a0 a_numbers z.2) (some (.int z.1))) args s 0 0 (va_A ws0 sz)) (F0 m 89 ls []) := by
  obtain ⟨F, hr, hlk, hNw⟩ := id CX
  have hx := F.1
  have hb := F.2.1
  have hown := F.2.2.2.1
  have hA : ∀ q, s.heap.size ≤ q → va_A ws0 sz q := fun q hq => Or.inr (hsz ▸ hq)
  intro numbers y1 y2 H locs ls h hP hD hS hl
  unfold f_X4_settle_89 at h
  refine lv_iconst (v := 0) hx hb dX4_settle_89 (by decide) ?_
  refine lv_istore (lv' := [(5, .int 0), (0, .ref a0), (1, .int y1), (2, .int y2)]) hx hb dX4_settle_90 hl (by decide) rfl (fun ls hl => ?_)
  exact w_X4_settle_92 CX hK hsz N numbers y1 y2 0 _ _ _ h hP hD hS (lv_sub hl [1, 2, 3, 0] rfl)
set_option maxHeartbeats 4000000 in
set_option maxRecDepth 100000 in
theorem w_X4_settle_65 (CX : Cx p m c cX4_settle 6 s args x0 RX4 meth (some .int)) (hK : va_K D vwCl (ty0 cI cJ cB) s) (hsz : s.heap.size = sz) : ∀ (n : Nat), ∀ (numbers : Nat → Int64) (y1 : Int32) (y2 : Int32) (y3 : Int64) (y5 : Int32) (H : Heap) (locs : List Loc) (ls : Array Slot), f_X4_settle_65 N n numbers y1 y2 y3 y5 = some z → va_P D vwCl (ws_X4_settle cI cJ cB a0 a_numbers numbers) H → va_D (va_A ws0 sz) (ws_X4_settle cI cJ cB a0 a_numbers numbers) → va_S (va_A ws0 sz) s.heap H locs → lv_has ls 6 [(0, .ref a0), (1, .int y1), (2, .int y2), (3, .long y3), (5, .int y5)] → W p l e rm_X4_settle s m args below meth c H locs 0 0 (MQ below (gQ D sz ws0 (ws_X4_settle cI cJ cB a0 a_numbers z.2) (some (.int z.1))) args s 0 0 (va_A ws0 sz)) (F0 m 65 ls []) := by
  obtain ⟨F, hr, hlk, hNw⟩ := id CX
  have hx := F.1
  have hb := F.2.1
  have hown := F.2.2.2.1
  have hA : ∀ q, s.heap.size ≤ q → va_A ws0 sz q := fun q hq => Or.inr (hsz ▸ hq)
  intro n
  induction n with
  | zero =>
    intro numbers y1 y2 y3 y5 H locs ls h
    cases h
  | succ n ih =>
    intro numbers y1 y2 y3 y5 H locs ls h hP hD hS hl
    unfold f_X4_settle_65 at h
    refine lv_iload hx hb dX4_settle_65 (lv_at hl 4 rfl) ?_
    refine lv_bipush (v := 9) hx hb dX4_settle_67 (by decide) ?_
    refine lv_icmp_ge (tgt := 89) hx hb dX4_settle_69 (by decide) (fun c69 => ?_) (fun c69 => ?_)
    · have h := o_t c69 h
      exact w_X4_settle_89 CX hK hsz numbers y1 y2 _ _ _ h hP hD hS (lv_sub hl [0, 1, 2] rfl)
    · have h := o_f c69 h
      refine lv_aload_n hx hb dX4_settle_72 rfl (lv_at hl 0 rfl) ?_
      refine r_get F hK hP 0 0 rfl inW_X4 wm_159 rfl (by decide) rfl dX4_settle_73 ?_
      refine lv_iload hx hb dX4_settle_76 (lv_at hl 4 rfl) ?_
      refine lv_dup2_11 hx hb dX4_settle_78 rfl rfl ?_
      obtain ⟨hi79, h⟩ := o_ix h
      refine va_lald hx hb hK hP 1 1 rfl rfl hi79 dX4_settle_79 ?_
      refine lv_lload_n hx hb dX4_settle_80 rfl (lv_at hl 3 rfl) ?_
      obtain ⟨hc81, h⟩ := o_c h
      refine lv_ldiv hx hb dX4_settle_81 hc81 ?_
      obtain ⟨hi82, h⟩ := o_ix h
      refine r_last (wn := (ws_X4_settle cI cJ cB a0 a_numbers (vp_updL numbers y5.toNatClampNeg ((numbers y5.toNatClampNeg) / y3)))) F hK hP hD hS 1 1 hi82 rfl rfl rfl dX4_settle_82 (fun H locs hP hD hS => ?_)
      refine lv_iinc (v := y5 + 1) (lv' := [(5, .int (y5 + 1)), (0, .ref a0), (1, .int y1), (2, .int y2), (3, .long y3)]) hx hb dX4_settle_83 hl (k := 4) rfl rfl (by decide) rfl (fun ls hl => ?_)
      refine lv_goto (tgt := 65) hx hb dX4_settle_86 (by decide) ?_
      exact ih (vp_updL numbers y5.toNatClampNeg ((numbers y5.toNatClampNeg) / y3)) y1 y2 y3 (y5 + 1) _ _ _ h hP hD hS (lv_sub hl [1, 2, 3, 4, 0] rfl)
set_option maxHeartbeats 4000000 in
set_option maxRecDepth 100000 in
theorem w_X4_settle_25 (CX : Cx p m c cX4_settle 6 s args x0 RX4 meth (some .int)) (hK : va_K D vwCl (ty0 cI cJ cB) s) (hsz : s.heap.size = sz) : ∀ (numbers : Nat → Int64) (y1 : Int32) (y2 : Int32) (H : Heap) (locs : List Loc) (ls : Array Slot), f_X4_settle_25 N numbers y1 y2 = some z → va_P D vwCl (ws_X4_settle cI cJ cB a0 a_numbers numbers) H → va_D (va_A ws0 sz) (ws_X4_settle cI cJ cB a0 a_numbers numbers) → va_S (va_A ws0 sz) s.heap H locs → lv_has ls 6 [(0, .ref a0), (1, .int y1), (2, .int y2)] → W p l e rm_X4_settle s m args below meth c H locs 0 0 (MQ below (gQ D sz ws0 (ws_X4_settle cI cJ cB a0 a_numbers z.2) (some (.int z.1))) args s 0 0 (va_A ws0 sz)) (F0 m 25 ls []) := by
  obtain ⟨F, hr, hlk, hNw⟩ := id CX
  have hx := F.1
  have hb := F.2.1
  have hown := F.2.2.2.1
  have hA : ∀ q, s.heap.size ≤ q → va_A ws0 sz q := fun q hq => Or.inr (hsz ▸ hq)
  intro numbers y1 y2 H locs ls h hP hD hS hl
  unfold f_X4_settle_25 at h
  refine lv_iload_n hx hb dX4_settle_25 rfl (lv_at hl 2 rfl) ?_
  refine lv_bipush (v := 8) hx hb dX4_settle_26 (by decide) ?_
  refine lv_icmp_ne (tgt := 51) hx hb dX4_settle_28 (by decide) (fun c28 => ?_) (fun c28 => ?_)
  · have h := o_f c28 h
    refine lv_aload_n hx hb dX4_settle_51 rfl (lv_at hl 0 rfl) ?_
    obtain ⟨z52, hz52, h⟩ := o_b h
    refine k_v (wn := (ws_X4_settle cI cJ cB a0 a_numbers numbers)) (As := []) (rest := []) F hNw hK hP hD hS hA (c_X4_commonDivisor l D cI cJ cB a0 a_numbers _ numbers N hz52) wm_720 cv_X4_commonDivisor [0, 1] [] [0, 1] (⟨rfl, rfl, rfl, by decide, rfl⟩ : Ix [0, 1] [] [0, 1] 2) rfl rfl rfl rfl rfl rfl ⟨rfl, rfl, by decide, by decide⟩ hl.1 rfl (Nat.le_of_ble_eq_true rfl) ⟨Nat.zero_le _, Nat.zero_le _⟩ dX4_settle_52 (fun H locs hP hD hS => ?_)
    refine lv_lstore_n (lv' := [(3, .long z52), (0, .ref a0), (1, .int y1), (2, .int y2)]) hx hb dX4_settle_55 rfl hl (by decide) rfl (fun ls hl => ?_)
    refine lv_lload_n hx hb dX4_settle_56 rfl (lv_at hl 0 rfl) ?_
    refine lv_lconst (v := 1) hx hb dX4_settle_57 (by decide) ?_
    refine W.lcmp hx hb dX4_settle_58 ?_
    refine lv_if_le (tgt := 89) hx hb dX4_settle_59 (by decide) (fun c59 => ?_) (fun c59 => ?_)
    · have h := o_t c59 h
      exact w_X4_settle_89 CX hK hsz numbers y1 y2 _ _ _ h hP hD hS (lv_sub hl [1, 2, 3] rfl)
    · have h := o_f c59 h
      refine lv_iconst (v := 0) hx hb dX4_settle_62 (by decide) ?_
      refine lv_istore (lv' := [(5, .int 0), (3, .long z52), (0, .ref a0), (1, .int y1), (2, .int y2)]) hx hb dX4_settle_63 hl (by decide) rfl (fun ls hl => ?_)
      exact w_X4_settle_65 CX hK hsz N numbers y1 y2 z52 0 _ _ _ h hP hD hS (lv_sub hl [2, 3, 4, 1, 0] rfl)
  · have h := o_t c28 h
    refine lv_iload_n hx hb dX4_settle_31 rfl (lv_at hl 1 rfl) ?_
    refine lv_aload_n hx hb dX4_settle_32 rfl (lv_at hl 0 rfl) ?_
    refine r_get F hK hP 0 0 rfl inW_X4 wm_159 rfl (by decide) rfl dX4_settle_33 ?_
    refine lv_bipush (v := 8) hx hb dX4_settle_36 (by decide) ?_
    obtain ⟨hi38, h⟩ := o_ix h
    refine va_lald hx hb hK hP 1 1 rfl rfl hi38 dX4_settle_38 ?_
    obtain ⟨z39, hz39, h⟩ := o_b h
    refine k_s (wn := (ws_X4_settle cI cJ cB a0 a_numbers numbers)) (As := [.int y1, .long (numbers (8 : Int32).toNatClampNeg)]) (rest := []) F hNw hK hP hD hS hA (c_X4_isTrue l D cI cJ cB _ y1 (numbers (8 : Int32).toNatClampNeg) N hz39) wm_717 cs_X4_isTrue [] [0, 1] [0, 1] (⟨rfl, rfl, rfl, by decide, rfl⟩ : Ix [] [0, 1] [0, 1] 2) rfl rfl rfl ⟨rfl, rfl, by decide, by decide⟩ hl.1 rfl (Nat.le_of_ble_eq_true rfl) ⟨Nat.zero_le _, Nat.zero_le _⟩ dX4_settle_39 (fun H locs hP hD hS => ?_)
    refine lv_if_eq (tgt := 49) hx hb dX4_settle_42 (by decide) (fun c42 => ?_) (fun c42 => ?_)
    · have h := o_t c42 h
      refine lv_iconst (v := 1) hx hb dX4_settle_49 (by decide) ?_
      exact w_X4_settle_50 CX hK hsz numbers 1 _ _ _ h hP hD hS (lv_sub hl [] rfl)
    · have h := o_f c42 h
      refine lv_iconst (v := 0) hx hb dX4_settle_45 (by decide) ?_
      refine lv_goto (tgt := 50) hx hb dX4_settle_46 (by decide) ?_
      exact w_X4_settle_50 CX hK hsz numbers 0 _ _ _ h hP hD hS (lv_sub hl [] rfl)
set_option maxHeartbeats 4000000 in
set_option maxRecDepth 100000 in
theorem w_X4_settle_2 (CX : Cx p m c cX4_settle 6 s args x0 RX4 meth (some .int)) (hK : va_K D vwCl (ty0 cI cJ cB) s) (hsz : s.heap.size = sz) : ∀ (n : Nat), ∀ (numbers : Nat → Int64) (y1 : Int32) (y2 : Int32) (H : Heap) (locs : List Loc) (ls : Array Slot), f_X4_settle_2 N n numbers y1 y2 = some z → va_P D vwCl (ws_X4_settle cI cJ cB a0 a_numbers numbers) H → va_D (va_A ws0 sz) (ws_X4_settle cI cJ cB a0 a_numbers numbers) → va_S (va_A ws0 sz) s.heap H locs → lv_has ls 6 [(0, .ref a0), (1, .int y1), (2, .int y2)] → W p l e rm_X4_settle s m args below meth c H locs 0 0 (MQ below (gQ D sz ws0 (ws_X4_settle cI cJ cB a0 a_numbers z.2) (some (.int z.1))) args s 0 0 (va_A ws0 sz)) (F0 m 2 ls []) := by
  obtain ⟨F, hr, hlk, hNw⟩ := id CX
  have hx := F.1
  have hb := F.2.1
  have hown := F.2.2.2.1
  have hA : ∀ q, s.heap.size ≤ q → va_A ws0 sz q := fun q hq => Or.inr (hsz ▸ hq)
  intro n
  induction n with
  | zero =>
    intro numbers y1 y2 H locs ls h
    cases h
  | succ n ih =>
    intro numbers y1 y2 H locs ls h hP hD hS hl
    unfold f_X4_settle_2 at h
    refine lv_iload_n hx hb dX4_settle_2 rfl (lv_at hl 2 rfl) ?_
    refine lv_bipush (v := 8) hx hb dX4_settle_3 (by decide) ?_
    refine lv_icmp_ge (tgt := 25) hx hb dX4_settle_5 (by decide) (fun c5 => ?_) (fun c5 => ?_)
    · have h := o_t c5 h
      exact w_X4_settle_25 CX hK hsz numbers y1 y2 _ _ _ h hP hD hS (lv_sub hl [0, 1, 2] rfl)
    · have h := o_f c5 h
      refine lv_aload_n hx hb dX4_settle_8 rfl (lv_at hl 0 rfl) ?_
      refine r_get F hK hP 0 0 rfl inW_X4 wm_159 rfl (by decide) rfl dX4_settle_9 ?_
      refine lv_iload_n hx hb dX4_settle_12 rfl (lv_at hl 2 rfl) ?_
      obtain ⟨hi13, h⟩ := o_ix h
      refine va_lald hx hb hK hP 1 1 rfl rfl hi13 dX4_settle_13 ?_
      refine lv_lconst (v := 0) hx hb dX4_settle_14 (by decide) ?_
      refine W.lcmp hx hb dX4_settle_15 ?_
      refine lv_if_ne (tgt := 25) hx hb dX4_settle_16 (by decide) (fun c16 => ?_) (fun c16 => ?_)
      · have h := o_f c16 h
        exact w_X4_settle_25 CX hK hsz numbers y1 y2 _ _ _ h hP hD hS (lv_sub hl [0, 1, 2] rfl)
      · have h := o_t c16 h
        refine lv_iinc (v := y2 + 1) (lv' := [(2, .int (y2 + 1)), (0, .ref a0), (1, .int y1)]) hx hb dX4_settle_19 hl (k := 2) rfl rfl (by decide) rfl (fun ls hl => ?_)
        refine lv_goto (tgt := 2) hx hb dX4_settle_22 (by decide) ?_
        exact ih numbers y1 (y2 + 1) _ _ _ h hP hD hS (lv_sub hl [1, 2, 0] rfl)
end G_X4_settle
set_option maxHeartbeats 4000000 in
set_option maxRecDepth 100000 in
theorem c_X4_settle (l : Launch) (D : va_G) (cI cJ cB : ClassId) (a0 a_numbers : Nat) (sz : Nat) (numbers : Nat → Int64) (x1 : Int32) (N : Nat) {z : Int32 × (Nat → Int64)} (h : f_X4_settle N numbers x1 = some z) : Mg l yX4_settle cX4_settle 6 (some .int) rm_X4_settle D (ty0 cI cJ cB) [.ref a0, .int x1] sz (ws_X4_settle cI cJ cB a0 a_numbers numbers) (some (.int z.1)) (ws_X4_settle cI cJ cB a0 a_numbers z.2) := by
  refine Mg.of (by decide) (Nat.le_of_ble_eq_true rfl) ?_
  intro p e s m below meth c CX hK hsz hP hD ls hl
  have CX : Cx p m c cX4_settle 6 s ([.ref a0, .int x1] : List Value).toArray (Cond.code yX4_settle cX4_settle 6 (some .int)) RX4 meth (some .int) := CX
  obtain ⟨F, hr, hlk, hNw⟩ := id CX
  have hx := F.1
  have hb := F.2.1
  have hown := F.2.2.2.1
  have hl : lv_has ls 6 [(0, .ref a0), (1, .int x1)] := hl
  have hS : va_S (va_A (ws_X4_settle cI cJ cB a0 a_numbers numbers) sz) s.heap s.heap [] := va_S.rf
  have hA : ∀ q, s.heap.size ≤ q → va_A (ws_X4_settle cI cJ cB a0 a_numbers numbers) sz q := fun q hq => Or.inr (hsz ▸ hq)
  unfold f_X4_settle at h
  refine lv_iconst (v := 0) hx hb dX4_settle_0 (by decide) ?_
  refine lv_istore_n (lv' := [(2, .int 0), (0, .ref a0), (1, .int x1)]) hx hb dX4_settle_1 rfl hl (by decide) rfl (fun ls hl => ?_)
  exact w_X4_settle_2 CX hK hsz N numbers x1 0 _ _ _ h hP hD hS (lv_sub hl [1, 2, 0] rfl)
