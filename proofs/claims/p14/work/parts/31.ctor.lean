theorem wm_73 : (Cond.initialized "LinearTruths$Bench") ∈ W0 := q_l 1 3 (by decide +kernel) (by decide +kernel)
theorem wm_74 : (Cond.initialized "LinearTruths$Tree") ∈ W0 := q_l 1 4 (by decide +kernel) (by decide +kernel)
theorem wm_76 : (Cond.initialized "LinearTruths$Sum") ∈ W0 := q_l 1 6 (by decide +kernel) (by decide +kernel)
theorem wm_102 : (Cond.instanceMethod ⟨"java/lang/Object", "<init>", "()V"⟩) ∈ W0 := q_l 1 32 (by decide +kernel) (by decide +kernel)
theorem wm_103 : (Cond.code ⟨"java/lang/Object", "<init>", "()V"⟩ object_method_1_code 1 none) ∈ W0 := q_l 1 33 (by decide +kernel) (by decide +kernel)
theorem wm_109 : (Cond.methodLink "LinearTruths$Reader" 3 ⟨"java/lang/Object", "<init>", "()V"⟩) ∈ W0 := q_l 1 39 (by decide +kernel) (by decide +kernel)
theorem wm_110 : (Cond.classLink "LinearTruths$Reader" 15 "LinearTruths$Bench") ∈ W0 := q_l 1 40 (by decide +kernel) (by decide +kernel)
theorem wm_111 : (Cond.instantiable "LinearTruths$Bench" 4) ∈ W0 := q_l 1 41 (by decide +kernel) (by decide +kernel)
theorem wm_112 : (Cond.methodLink "LinearTruths$Reader" 17 yX0_init) ∈ W0 := q_l 1 42 (by decide +kernel) (by decide +kernel)
theorem wm_115 : (Cond.methodLink "LinearTruths$Bench" 3 ⟨"java/lang/Object", "<init>", "()V"⟩) ∈ W0 := q_l 1 45 (by decide +kernel) (by decide +kernel)
theorem wm_116 : (Cond.classLink "LinearTruths$Bench" 18 "LinearTruths$Tree") ∈ W0 := q_l 1 46 (by decide +kernel) (by decide +kernel)
theorem wm_117 : (Cond.instantiable "LinearTruths$Tree" 2) ∈ W0 := q_l 1 47 (by decide +kernel) (by decide +kernel)
theorem wm_118 : (Cond.methodLink "LinearTruths$Bench" 20 yX5_init) ∈ W0 := q_l 1 48 (by decide +kernel) (by decide +kernel)
theorem wm_121 : (Cond.methodLink "LinearTruths$Tree" 3 ⟨"java/lang/Object", "<init>", "()V"⟩) ∈ W0 := q_l 1 51 (by decide +kernel) (by decide +kernel)
theorem wm_136 : (Cond.arrayClass Jvm.ClassFile.FieldType.byte) ∈ W0 := q_l 1 66 (by decide +kernel) (by decide +kernel)
theorem wm_137 : (Cond.arrayClass Jvm.ClassFile.FieldType.int) ∈ W0 := q_l 1 67 (by decide +kernel) (by decide +kernel)
theorem wm_153 : (Cond.classLink "LinearTruths$Reader" 24 "LinearTruths$Sum") ∈ W0 := q_l 1 83 (by decide +kernel) (by decide +kernel)
theorem wm_154 : (Cond.instantiable "LinearTruths$Sum" 1) ∈ W0 := q_l 1 84 (by decide +kernel) (by decide +kernel)
theorem wm_158 : (Cond.methodLink "LinearTruths$Sum" 3 ⟨"java/lang/Object", "<init>", "()V"⟩) ∈ W0 := q_l 1 88 (by decide +kernel) (by decide +kernel)
theorem wm_164 : (Cond.arrayClass Jvm.ClassFile.FieldType.long) ∈ W0 := q_l 1 94 (by decide +kernel) (by decide +kernel)
theorem wm_203 : (Cond.methodLink "LinearTruths$Freer" 3 ⟨"java/lang/Object", "<init>", "()V"⟩) ∈ W0 := q_l 1 133 (by decide +kernel) (by decide +kernel)
theorem wm_204 : (Cond.classLink "LinearTruths$Freer" 9 "LinearTruths$Bench") ∈ W0 := q_l 1 134 (by decide +kernel) (by decide +kernel)
theorem wm_205 : (Cond.methodLink "LinearTruths$Freer" 13 yX0_init) ∈ W0 := q_l 1 135 (by decide +kernel) (by decide +kernel)
theorem wm_206 : (Cond.classLink "LinearTruths$Freer" 20 "LinearTruths$Tree") ∈ W0 := q_l 1 136 (by decide +kernel) (by decide +kernel)
theorem wm_207 : (Cond.methodLink "LinearTruths$Freer" 22 yX5_init) ∈ W0 := q_l 1 137 (by decide +kernel) (by decide +kernel)
theorem wm_208 : (Cond.classLink "LinearTruths$Freer" 27 "LinearTruths$Sum") ∈ W0 := q_l 1 138 (by decide +kernel) (by decide +kernel)
theorem wm_246 : (Cond.methodLink "LinearTruths$Scribe" 3 ⟨"java/lang/Object", "<init>", "()V"⟩) ∈ W0 := q_l 1 176 (by decide +kernel) (by decide +kernel)
theorem nm_X1_29 : (RX1, 29, yX4_init, "LinearTruths") ∈ NM := by decide +kernel
theorem nm_X2_26 : (RX2, 26, yX4_init, "LinearTruths") ∈ NM := by decide +kernel
theorem ci_X0_init : Ci yX0_init cX0_init 2 1 := ⟨q_l 1 43 (by decide +kernel) (by decide +kernel), q_l 1 3 (by decide +kernel) (by decide +kernel), q_l 1 44 (by decide +kernel) (by decide +kernel), by decide +kernel, by decide +kernel⟩
theorem ci_X4_init : Ci yX4_init cX4_init 1 0 := ⟨q_l 1 86 (by decide +kernel) (by decide +kernel), q_l 1 6 (by decide +kernel) (by decide +kernel), q_l 1 87 (by decide +kernel) (by decide +kernel), by decide +kernel, by decide +kernel⟩
theorem ci_X5_init : Ci yX5_init cX5_init 2 1 := ⟨q_l 1 49 (by decide +kernel) (by decide +kernel), q_l 1 4 (by decide +kernel) (by decide +kernel), q_l 1 50 (by decide +kernel) (by decide +kernel), by decide +kernel, by decide +kernel⟩
set_option maxHeartbeats 4000000 in
set_option maxRecDepth 100000 in
theorem c_X5_init (l : Launch) (D : va_G) (cI cJ cB : ClassId) (a0 sz : Nat) (x1 : Int32) (n1 : Nat) (h1 : ¬ jmax x1 1 * 10 < 0) (h2 : (jmax x1 1 * 10).toNatClampNeg = n1) (h3 : n1 * 4 ≤ 536870912) : Mc l yX5_init cX5_init 2 ({ frames := 1, cells := 1, slots := n1, locals := 40 } : Room) D (ty0 cI cJ cB) [.ref a0, .int x1] sz [(a0, .inr (7, [.null, .int 0]))] (fun q => [(a0, .inr (7, [.ref (q 0), .int 0])), ((q 0), .inl (cI, n1, .inl (fun _ => 0)))]) 1 (n1) := by
  refine Mc.of (by decide) (Nat.le_of_ble_eq_true rfl) ?_
  intro p e s m below meth c CX hin hK hsz hP hD ls hl
  have CX : Cx p m c cX5_init 2 s ([.ref a0, .int x1] : List Value).toArray (Cond.code yX5_init cX5_init 2 none) RX5 meth none := CX
  obtain ⟨F, hr, hlk, hNw⟩ := id CX
  have hx := F.1
  have hb := F.2.1
  have hown := F.2.2.2.1
  have hl : lv_has ls 2 [(0, .ref a0), (1, .int x1)] := hl
  have hS : va_S (va_A [(a0, .inr (7, [.null, .int 0]))] sz) s.heap s.heap [] := va_S.rf
  have hA : ∀ q, s.heap.size ≤ q → va_A [(a0, .inr (7, [.null, .int 0]))] sz q := fun q hq => Or.inr (hsz ▸ hq)
  refine lv_aload_n hx hb dX5_init_0 rfl (lv_at hl 0 rfl) ?_
  refine W.objInit hx hb hown (F.2.2.2.2 _ (q_in wm_121)) (F.2.2.2.2 _ (q_in wm_102)) (F.2.2.2.2 _ (q_in wm_103)) rfl (hl.1.trans F.2.2.1.symm) rfl dX5_init_1 (Nat.le_of_ble_eq_true rfl) (Nat.le_of_ble_eq_true rfl) ?_
  refine W.eq (g2 := F0 m 4 ls []) rfl ?_
  refine lv_aload_n hx hb dX5_init_4 rfl (lv_at hl 0 rfl) ?_
  refine lv_iload_n hx hb dX5_init_5 rfl (lv_at hl 1 rfl) ?_
  refine lv_iconst (v := 1) hx hb dX5_init_6 (by decide) ?_
  refine va_mmax hx hb (F.2.2.1.trans hl.1.symm) hown (F.2.2.2.2 _ (q_in wm_122)) (F.2.2.2.2 _ (q_in wm_123)) (F.2.2.2.2 _ (q_in wm_75)) (F.2.2.2.2 _ (q_in wm_124)) (Nat.le_of_ble_eq_true rfl) (Nat.le_of_ble_eq_true rfl) (Nat.zero_le _) (Nat.zero_le _) dX5_init_7 ?_
  refine lv_bipush (v := 10) hx hb dX5_init_10 (by decide) ?_
  refine lv_imul hx hb dX5_init_12 ?_
  refine r_newi (N := n1) F hK hP hD hS hA wm_137 h1 h2 h3 (by show 0 + 1 ≤ 1; omega) (by show 0 + n1 ≤ n1; omega) dX5_init_13 (fun q13 H hP hD hS => ?_)
  have hP : va_P D vwCl [(a0, .inr (7, [.null, .int 0])), (q13, .inl (cI, n1, .inl (fun _ => 0)))] H := hP
  have hD : va_D _ [(a0, .inr (7, [.null, .int 0])), (q13, .inl (cI, n1, .inl (fun _ => 0)))] := hD
  refine W.widen (k := 1) (n := n1) (by omega) (by omega) ?_
  refine r_put (wn := [(a0, .inr (7, [.ref q13, .int 0])), (q13, .inl (cI, n1, .inl (fun _ => 0)))]) F hK hP hD hS 0 0 rfl inW_X5 wm_125 tyX5_ok nmX5 rfl rfl (by decide) rfl rfl (Nat.le_of_ble_eq_true rfl) rfl dX5_init_15 (fun H locs hP hD hS => ?_)
  have hP := hP.sub (ws' := [(a0, .inr (7, [.ref q13, .int 0])), (q13, .inl (cI, n1, .inl (fun _ => 0)))]) [0, 1] rfl
  have hD := hD.sub (ws' := [(a0, .inr (7, [.ref q13, .int 0])), (q13, .inl (cI, n1, .inl (fun _ => 0)))]) [0, 1] (by decide) rfl
  exact r_aret F hr hlk dX5_init_18 (fun i => ([q13] : List Nat).getD i 0) hP hD hS
set_option maxHeartbeats 4000000 in
set_option maxRecDepth 100000 in
theorem c_X4_init (l : Launch) (D : va_G) (cI cJ cB : ClassId) (a0 sz : Nat) : Mc l yX4_init cX4_init 1 ({ frames := 1, cells := 1, slots := 9, locals := 12 } : Room) D (ty0 cI cJ cB) [.ref a0] sz [(a0, .inr (6, [.null]))] (fun q => [(a0, .inr (6, [.ref (q 0)])), ((q 0), .inl (cJ, 9, .inr (.inl (fun _ => 0))))]) 1 (9) := by
  refine Mc.of (by decide) (Nat.le_of_ble_eq_true rfl) ?_
  intro p e s m below meth c CX hin hK hsz hP hD ls hl
  have CX : Cx p m c cX4_init 1 s ([.ref a0] : List Value).toArray (Cond.code yX4_init cX4_init 1 none) RX4 meth none := CX
  obtain ⟨F, hr, hlk, hNw⟩ := id CX
  have hx := F.1
  have hb := F.2.1
  have hown := F.2.2.2.1
  have hl : lv_has ls 1 [(0, .ref a0)] := hl
  have hS : va_S (va_A [(a0, .inr (6, [.null]))] sz) s.heap s.heap [] := va_S.rf
  have hA : ∀ q, s.heap.size ≤ q → va_A [(a0, .inr (6, [.null]))] sz q := fun q hq => Or.inr (hsz ▸ hq)
  refine lv_aload_n hx hb dX4_init_0 rfl (lv_at hl 0 rfl) ?_
  refine W.objInit hx hb hown (F.2.2.2.2 _ (q_in wm_158)) (F.2.2.2.2 _ (q_in wm_102)) (F.2.2.2.2 _ (q_in wm_103)) rfl (hl.1.trans F.2.2.1.symm) rfl dX4_init_1 (Nat.le_of_ble_eq_true rfl) (Nat.le_of_ble_eq_true rfl) ?_
  refine W.eq (g2 := F0 m 4 ls []) rfl ?_
  refine lv_aload_n hx hb dX4_init_4 rfl (lv_at hl 0 rfl) ?_
  refine lv_bipush (v := 9) hx hb dX4_init_5 (by decide) ?_
  refine r_newl (N := 9) F hK hP hD hS hA wm_164 (by decide) (by decide) (by decide) (by show 0 + 1 ≤ 1; omega) (by show 0 + 9 ≤ 9; omega) dX4_init_7 (fun q7 H hP hD hS => ?_)
  have hP : va_P D vwCl [(a0, .inr (6, [.null])), (q7, .inl (cJ, 9, .inr (.inl (fun _ => 0))))] H := hP
  have hD : va_D _ [(a0, .inr (6, [.null])), (q7, .inl (cJ, 9, .inr (.inl (fun _ => 0))))] := hD
  refine W.widen (k := 1) (n := 9) (by omega) (by omega) ?_
  refine r_putF (wn := [(a0, .inr (6, [.ref q7])), (q7, .inl (cJ, 9, .inr (.inl (fun _ => 0))))]) F hin hK hP hD hS 0 0 rfl inW_X4 wm_159 tyX4_ok nmX4 rfl rfl rfl (by decide) rfl rfl (Nat.le_of_ble_eq_true rfl) rfl dX4_init_9 (fun H locs hP hD hS => ?_)
  have hP := hP.sub (ws' := [(a0, .inr (6, [.ref q7])), (q7, .inl (cJ, 9, .inr (.inl (fun _ => 0))))]) [0, 1] rfl
  have hD := hD.sub (ws' := [(a0, .inr (6, [.ref q7])), (q7, .inl (cJ, 9, .inr (.inl (fun _ => 0))))]) [0, 1] (by decide) rfl
  exact r_aret F hr hlk dX4_init_12 (fun i => ([q7] : List Nat).getD i 0) hP hD hS
set_option maxHeartbeats 4000000 in
set_option maxRecDepth 100000 in
theorem c_X0_init (l : Launch) (D : va_G) (cI cJ cB : ClassId) (a0 sz : Nat) (x1 : Int32) (n1 : Nat) (h1 : ¬ jmax x1 1 * 10 < 0) (h2 : (jmax x1 1 * 10).toNatClampNeg = n1) (h3 : n1 * 4 ≤ 536870912) : Mc l yX0_init cX0_init 2 ({ frames := 2, cells := 4, slots := 402 + 402 + 2 + (n1), locals := 61 } : Room) D (ty0 cI cJ cB) [.ref a0, .int x1] sz [(a0, .inr (2, [.null, .null, .null, .int 0]))] (fun q => [(a0, .inr (2, [.ref (q 2), .ref (q 0), .ref (q 1), .int 0])), ((q 0), .inl (cI, 402, .inl (fun _ => 0))), ((q 1), .inl (cI, 402, .inl (fun _ => 0))), ((q 2), .inr (7, [.ref (q 3), .int 0])), ((q 3), .inl (cI, n1, .inl (fun _ => 0)))]) 4 (402 + 402 + 2 + (n1)) := by
  refine Mc.of (by decide) (Nat.le_of_ble_eq_true rfl) ?_
  intro p e s m below meth c CX hin hK hsz hP hD ls hl
  have CX : Cx p m c cX0_init 2 s ([.ref a0, .int x1] : List Value).toArray (Cond.code yX0_init cX0_init 2 none) RX0 meth none := CX
  obtain ⟨F, hr, hlk, hNw⟩ := id CX
  have hx := F.1
  have hb := F.2.1
  have hown := F.2.2.2.1
  have hl : lv_has ls 2 [(0, .ref a0), (1, .int x1)] := hl
  have hS : va_S (va_A [(a0, .inr (2, [.null, .null, .null, .int 0]))] sz) s.heap s.heap [] := va_S.rf
  have hA : ∀ q, s.heap.size ≤ q → va_A [(a0, .inr (2, [.null, .null, .null, .int 0]))] sz q := fun q hq => Or.inr (hsz ▸ hq)
  refine lv_aload_n hx hb dX0_init_0 rfl (lv_at hl 0 rfl) ?_
  refine W.objInit hx hb hown (F.2.2.2.2 _ (q_in wm_115)) (F.2.2.2.2 _ (q_in wm_102)) (F.2.2.2.2 _ (q_in wm_103)) rfl (hl.1.trans F.2.2.1.symm) rfl dX0_init_1 (Nat.le_of_ble_eq_true rfl) (Nat.le_of_ble_eq_true rfl) ?_
  refine W.eq (g2 := F0 m 4 ls []) rfl ?_
  refine lv_aload_n hx hb dX0_init_4 rfl (lv_at hl 0 rfl) ?_
  refine lv_sipush (v := 402) hx hb dX0_init_5 (by decide) ?_
  refine r_newi (N := 402) F hK hP hD hS hA wm_137 (by decide) (by decide) (by decide) (by show 0 + 1 ≤ 4; omega) (by show 0 + 402 ≤ 402 + 402 + 2 + (n1); omega) dX0_init_8 (fun q8 H hP hD hS => ?_)
  have hP : va_P D vwCl [(a0, .inr (2, [.null, .null, .null, .int 0])), (q8, .inl (cI, 402, .inl (fun _ => 0)))] H := hP
  have hD : va_D _ [(a0, .inr (2, [.null, .null, .null, .int 0])), (q8, .inl (cI, 402, .inl (fun _ => 0)))] := hD
  refine W.widen (k := 1) (n := 402) (by omega) (by omega) ?_
  refine r_putF (wn := [(a0, .inr (2, [.null, .ref q8, .null, .int 0])), (q8, .inl (cI, 402, .inl (fun _ => 0)))]) F hin hK hP hD hS 0 1 rfl inW_X0 wm_141 tyX0_ok nmX0 rfl rfl rfl (by decide) rfl rfl (Nat.le_of_ble_eq_true rfl) rfl dX0_init_10 (fun H locs hP hD hS => ?_)
  refine lv_aload_n hx hb dX0_init_13 rfl (lv_at hl 0 rfl) ?_
  refine lv_sipush (v := 402) hx hb dX0_init_14 (by decide) ?_
  refine r_newi (N := 402) F hK hP hD hS hA wm_137 (by decide) (by decide) (by decide) (by show 1 + 1 ≤ 4; omega) (by show 402 + 402 ≤ 402 + 402 + 2 + (n1); omega) dX0_init_17 (fun q17 H hP hD hS => ?_)
  have hP : va_P D vwCl [(a0, .inr (2, [.null, .ref q8, .null, .int 0])), (q8, .inl (cI, 402, .inl (fun _ => 0))), (q17, .inl (cI, 402, .inl (fun _ => 0)))] H := hP
  have hD : va_D _ [(a0, .inr (2, [.null, .ref q8, .null, .int 0])), (q8, .inl (cI, 402, .inl (fun _ => 0))), (q17, .inl (cI, 402, .inl (fun _ => 0)))] := hD
  refine W.widen (k := 2) (n := 402 + 402) (by omega) (by omega) ?_
  refine r_putF (wn := [(a0, .inr (2, [.null, .ref q8, .ref q17, .int 0])), (q8, .inl (cI, 402, .inl (fun _ => 0))), (q17, .inl (cI, 402, .inl (fun _ => 0)))]) F hin hK hP hD hS 0 2 rfl inW_X0 wm_142 tyX0_ok nmX0 rfl rfl rfl (by decide) rfl rfl (Nat.le_of_ble_eq_true rfl) rfl dX0_init_19 (fun H locs hP hD hS => ?_)
  refine lv_aload_n hx hb dX0_init_22 rfl (lv_at hl 0 rfl) ?_
  refine r_new (ci := 7) (C := RX5) (T := TX5) (N := 2) F hK hP hD hS hA rfl inW_X5 tyX5_ok wm_116 wm_117 wm_74 [.null, .int 0] (by decide) (by show 2 + 1 ≤ 4; omega) (by show 402 + 402 + 2 ≤ 402 + 402 + 2 + (n1); omega) dX0_init_23 (fun q23 H hP hD hS => ?_)
  have hP : va_P D vwCl [(a0, .inr (2, [.null, .ref q8, .ref q17, .int 0])), (q8, .inl (cI, 402, .inl (fun _ => 0))), (q17, .inl (cI, 402, .inl (fun _ => 0))), (q23, .inr (7, [.null, .int 0]))] H := hP
  have hD : va_D _ [(a0, .inr (2, [.null, .ref q8, .ref q17, .int 0])), (q8, .inl (cI, 402, .inl (fun _ => 0))), (q17, .inl (cI, 402, .inl (fun _ => 0))), (q23, .inr (7, [.null, .int 0]))] := hD
  refine W.widen (k := 3) (n := 402 + 402 + 2) (by omega) (by omega) ?_
  refine lv_dup hx hb dX0_init_26 rfl ?_
  refine lv_iload_n hx hb dX0_init_27 rfl (lv_at hl 1 rfl) ?_
  refine k_i (As := [.int x1]) (rest := [.ref q23, .ref a0]) F hNw hK hP hD hS hA (c_X5_init l D cI cJ cB q23 _ x1 n1 h1 h2 h3) wm_118 ci_X5_init [3] [0, 1, 2] ⟨rfl, rfl, by decide, rfl⟩ rfl rfl ⟨rfl, rfl, Nat.le_of_ble_eq_true rfl, Nat.le_of_ble_eq_true rfl⟩ hl.1 rfl (Nat.le_of_ble_eq_true rfl) ⟨by show 3 + 1 ≤ 4; omega, by show 402 + 402 + 2 + (n1) ≤ 402 + 402 + 2 + (n1); omega⟩ dX0_init_28 (fun r28 H locs hP hD hS => ?_)
  have hP : va_P D vwCl [(a0, .inr (2, [.null, .ref q8, .ref q17, .int 0])), (q8, .inl (cI, 402, .inl (fun _ => 0))), (q17, .inl (cI, 402, .inl (fun _ => 0))), (q23, .inr (7, [.ref (r28 0), .int 0])), ((r28 0), .inl (cI, n1, .inl (fun _ => 0)))] H := hP
  have hD : va_D _ [(a0, .inr (2, [.null, .ref q8, .ref q17, .int 0])), (q8, .inl (cI, 402, .inl (fun _ => 0))), (q17, .inl (cI, 402, .inl (fun _ => 0))), (q23, .inr (7, [.ref (r28 0), .int 0])), ((r28 0), .inl (cI, n1, .inl (fun _ => 0)))] := hD
  refine W.widen (k := 4) (n := 402 + 402 + 2 + (n1)) (by omega) (by omega) ?_
  refine r_putF (wn := [(a0, .inr (2, [.ref q23, .ref q8, .ref q17, .int 0])), (q8, .inl (cI, 402, .inl (fun _ => 0))), (q17, .inl (cI, 402, .inl (fun _ => 0))), (q23, .inr (7, [.ref (r28 0), .int 0])), ((r28 0), .inl (cI, n1, .inl (fun _ => 0)))]) F hin hK hP hD hS 0 0 rfl inW_X0 wm_138 tyX0_ok nmX0 rfl rfl rfl (by decide) rfl rfl (Nat.le_of_ble_eq_true rfl) rfl dX0_init_31 (fun H locs hP hD hS => ?_)
  have hP := hP.sub (ws' := [(a0, .inr (2, [.ref q23, .ref q8, .ref q17, .int 0])), (q8, .inl (cI, 402, .inl (fun _ => 0))), (q17, .inl (cI, 402, .inl (fun _ => 0))), (q23, .inr (7, [.ref (r28 0), .int 0])), ((r28 0), .inl (cI, n1, .inl (fun _ => 0)))]) [0, 1, 2, 3, 4] rfl
  have hD := hD.sub (ws' := [(a0, .inr (2, [.ref q23, .ref q8, .ref q17, .int 0])), (q8, .inl (cI, 402, .inl (fun _ => 0))), (q17, .inl (cI, 402, .inl (fun _ => 0))), (q23, .inr (7, [.ref (r28 0), .int 0])), ((r28 0), .inl (cI, n1, .inl (fun _ => 0)))]) [0, 1, 2, 3, 4] (by decide) rfl
  exact r_aret F hr hlk dX0_init_34 (fun i => ([q8, q17, q23, (r28 0)] : List Nat).getD i 0) hP hD hS
set_option maxHeartbeats 4000000 in
set_option maxRecDepth 100000 in
theorem c_X3_init (l : Launch) (D : va_G) (cI cJ cB : ClassId) (a0 sz : Nat) : Mc l yX3_init cX3_init 1 ({ frames := 1, cells := 3, slots := 12000 + 400 + 1600, locals := 12 } : Room) D (ty0 cI cJ cB) [.ref a0] sz [(a0, .inr (5, [.null, .null, .null, .int 0, .int 0]))] (fun q => [(a0, .inr (5, [.ref (q 0), .ref (q 1), .ref (q 2), .int 0, .int 0])), ((q 0), .inl (cB, 12000, .inl (fun _ => 0))), ((q 1), .inl (cI, 400, .inl (fun _ => 0))), ((q 2), .inl (cI, 1600, .inl (fun _ => 0)))]) 3 (12000 + 400 + 1600) := by
  refine Mc.of (by decide) (Nat.le_of_ble_eq_true rfl) ?_
  intro p e s m below meth c CX hin hK hsz hP hD ls hl
  have CX : Cx p m c cX3_init 1 s ([.ref a0] : List Value).toArray (Cond.code yX3_init cX3_init 1 none) RX3 meth none := CX
  obtain ⟨F, hr, hlk, hNw⟩ := id CX
  have hx := F.1
  have hb := F.2.1
  have hown := F.2.2.2.1
  have hl : lv_has ls 1 [(0, .ref a0)] := hl
  have hS : va_S (va_A [(a0, .inr (5, [.null, .null, .null, .int 0, .int 0]))] sz) s.heap s.heap [] := va_S.rf
  have hA : ∀ q, s.heap.size ≤ q → va_A [(a0, .inr (5, [.null, .null, .null, .int 0, .int 0]))] sz q := fun q hq => Or.inr (hsz ▸ hq)
  refine lv_aload_n hx hb dX3_init_0 rfl (lv_at hl 0 rfl) ?_
  refine W.objInit hx hb hown (F.2.2.2.2 _ (q_in wm_246)) (F.2.2.2.2 _ (q_in wm_102)) (F.2.2.2.2 _ (q_in wm_103)) rfl (hl.1.trans F.2.2.1.symm) rfl dX3_init_1 (Nat.le_of_ble_eq_true rfl) (Nat.le_of_ble_eq_true rfl) ?_
  refine W.eq (g2 := F0 m 4 ls []) rfl ?_
  refine lv_aload_n hx hb dX3_init_4 rfl (lv_at hl 0 rfl) ?_
  refine lv_sipush (v := 12000) hx hb dX3_init_5 (by decide) ?_
  refine r_newb (N := 12000) F hK hP hD hS hA wm_136 (by decide) (by decide) (by decide) (by show 0 + 1 ≤ 3; omega) (by show 0 + 12000 ≤ 12000 + 400 + 1600; omega) dX3_init_8 (fun q8 H hP hD hS => ?_)
  have hP : va_P D vwCl [(a0, .inr (5, [.null, .null, .null, .int 0, .int 0])), (q8, .inl (cB, 12000, .inl (fun _ => 0)))] H := hP
  have hD : va_D _ [(a0, .inr (5, [.null, .null, .null, .int 0, .int 0])), (q8, .inl (cB, 12000, .inl (fun _ => 0)))] := hD
  refine W.widen (k := 1) (n := 12000) (by omega) (by omega) ?_
  refine r_putF (wn := [(a0, .inr (5, [.ref q8, .null, .null, .int 0, .int 0])), (q8, .inl (cB, 12000, .inl (fun _ => 0)))]) F hin hK hP hD hS 0 0 rfl inW_X3 wm_247 tyX3_ok nmX3 rfl rfl rfl (by decide) rfl rfl (Nat.le_of_ble_eq_true rfl) rfl dX3_init_10 (fun H locs hP hD hS => ?_)
  refine lv_aload_n hx hb dX3_init_13 rfl (lv_at hl 0 rfl) ?_
  refine lv_sipush (v := 400) hx hb dX3_init_14 (by decide) ?_
  refine r_newi (N := 400) F hK hP hD hS hA wm_137 (by decide) (by decide) (by decide) (by show 1 + 1 ≤ 3; omega) (by show 12000 + 400 ≤ 12000 + 400 + 1600; omega) dX3_init_17 (fun q17 H hP hD hS => ?_)
  have hP : va_P D vwCl [(a0, .inr (5, [.ref q8, .null, .null, .int 0, .int 0])), (q8, .inl (cB, 12000, .inl (fun _ => 0))), (q17, .inl (cI, 400, .inl (fun _ => 0)))] H := hP
  have hD : va_D _ [(a0, .inr (5, [.ref q8, .null, .null, .int 0, .int 0])), (q8, .inl (cB, 12000, .inl (fun _ => 0))), (q17, .inl (cI, 400, .inl (fun _ => 0)))] := hD
  refine W.widen (k := 2) (n := 12000 + 400) (by omega) (by omega) ?_
  refine r_putF (wn := [(a0, .inr (5, [.ref q8, .ref q17, .null, .int 0, .int 0])), (q8, .inl (cB, 12000, .inl (fun _ => 0))), (q17, .inl (cI, 400, .inl (fun _ => 0)))]) F hin hK hP hD hS 0 1 rfl inW_X3 wm_248 tyX3_ok nmX3 rfl rfl rfl (by decide) rfl rfl (Nat.le_of_ble_eq_true rfl) rfl dX3_init_19 (fun H locs hP hD hS => ?_)
  refine lv_aload_n hx hb dX3_init_22 rfl (lv_at hl 0 rfl) ?_
  refine lv_sipush (v := 1600) hx hb dX3_init_23 (by decide) ?_
  refine r_newi (N := 1600) F hK hP hD hS hA wm_137 (by decide) (by decide) (by decide) (by show 2 + 1 ≤ 3; omega) (by show 12000 + 400 + 1600 ≤ 12000 + 400 + 1600; omega) dX3_init_26 (fun q26 H hP hD hS => ?_)
  have hP : va_P D vwCl [(a0, .inr (5, [.ref q8, .ref q17, .null, .int 0, .int 0])), (q8, .inl (cB, 12000, .inl (fun _ => 0))), (q17, .inl (cI, 400, .inl (fun _ => 0))), (q26, .inl (cI, 1600, .inl (fun _ => 0)))] H := hP
  have hD : va_D _ [(a0, .inr (5, [.ref q8, .ref q17, .null, .int 0, .int 0])), (q8, .inl (cB, 12000, .inl (fun _ => 0))), (q17, .inl (cI, 400, .inl (fun _ => 0))), (q26, .inl (cI, 1600, .inl (fun _ => 0)))] := hD
  refine W.widen (k := 3) (n := 12000 + 400 + 1600) (by omega) (by omega) ?_
  refine r_putF (wn := [(a0, .inr (5, [.ref q8, .ref q17, .ref q26, .int 0, .int 0])), (q8, .inl (cB, 12000, .inl (fun _ => 0))), (q17, .inl (cI, 400, .inl (fun _ => 0))), (q26, .inl (cI, 1600, .inl (fun _ => 0)))]) F hin hK hP hD hS 0 2 rfl inW_X3 wm_249 tyX3_ok nmX3 rfl rfl rfl (by decide) rfl rfl (Nat.le_of_ble_eq_true rfl) rfl dX3_init_28 (fun H locs hP hD hS => ?_)
  have hP := hP.sub (ws' := [(a0, .inr (5, [.ref q8, .ref q17, .ref q26, .int 0, .int 0])), (q8, .inl (cB, 12000, .inl (fun _ => 0))), (q17, .inl (cI, 400, .inl (fun _ => 0))), (q26, .inl (cI, 1600, .inl (fun _ => 0)))]) [0, 1, 2, 3] rfl
  have hD := hD.sub (ws' := [(a0, .inr (5, [.ref q8, .ref q17, .ref q26, .int 0, .int 0])), (q8, .inl (cB, 12000, .inl (fun _ => 0))), (q17, .inl (cI, 400, .inl (fun _ => 0))), (q26, .inl (cI, 1600, .inl (fun _ => 0)))]) [0, 1, 2, 3] (by decide) rfl
  exact r_aret F hr hlk dX3_init_31 (fun i => ([q8, q17, q26] : List Nat).getD i 0) hP hD hS
set_option maxHeartbeats 4000000 in
set_option maxRecDepth 100000 in
theorem c_X2_init (l : Launch) (D : va_G) (cI cJ cB : ClassId) (a0 sz : Nat) : Mc l yX2_init cX2_init 1 ({ frames := 3, cells := 9, slots := 240 + 4 + (402 + 402 + 2 + (2400)) + 1 + (9) + 240, locals := 82 } : Room) D (ty0 cI cJ cB) [.ref a0] sz [(a0, .inr (4, [.null, .null, .null, .null, .int 0, .int 0, .int 0, .int 0, .int 0, .int 0]))] (fun q => [(a0, .inr (4, [.ref (q 0), .ref (q 1), .ref (q 6), .ref (q 8), .int 0, .int 0, .int 0, .int 0, .int 0, .int 0])), ((q 0), .inl (cB, 240, .inl (fun _ => 0))), ((q 1), .inr (2, [.ref (q 4), .ref (q 2), .ref (q 3), .int 0])), ((q 2), .inl (cI, 402, .inl (fun _ => 0))), ((q 3), .inl (cI, 402, .inl (fun _ => 0))), ((q 4), .inr (7, [.ref (q 5), .int 0])), ((q 5), .inl (cI, 2400, .inl (fun _ => 0))), ((q 6), .inr (6, [.ref (q 7)])), ((q 7), .inl (cJ, 9, .inr (.inl (fun _ => 0)))), ((q 8), .inl (cI, 240, .inl (fun _ => 0)))]) 9 (240 + 4 + (402 + 402 + 2 + (2400)) + 1 + (9) + 240) := by
  refine Mc.of (by decide) (Nat.le_of_ble_eq_true rfl) ?_
  intro p e s m below meth c CX hin hK hsz hP hD ls hl
  have CX : Cx p m c cX2_init 1 s ([.ref a0] : List Value).toArray (Cond.code yX2_init cX2_init 1 none) RX2 meth none := CX
  obtain ⟨F, hr, hlk, hNw⟩ := id CX
  have hx := F.1
  have hb := F.2.1
  have hown := F.2.2.2.1
  have hl : lv_has ls 1 [(0, .ref a0)] := hl
  have hS : va_S (va_A [(a0, .inr (4, [.null, .null, .null, .null, .int 0, .int 0, .int 0, .int 0, .int 0, .int 0]))] sz) s.heap s.heap [] := va_S.rf
  have hA : ∀ q, s.heap.size ≤ q → va_A [(a0, .inr (4, [.null, .null, .null, .null, .int 0, .int 0, .int 0, .int 0, .int 0, .int 0]))] sz q := fun q hq => Or.inr (hsz ▸ hq)
  refine lv_aload_n hx hb dX2_init_0 rfl (lv_at hl 0 rfl) ?_
  refine W.objInit hx hb hown (F.2.2.2.2 _ (q_in wm_109)) (F.2.2.2.2 _ (q_in wm_102)) (F.2.2.2.2 _ (q_in wm_103)) rfl (hl.1.trans F.2.2.1.symm) rfl dX2_init_1 (Nat.le_of_ble_eq_true rfl) (Nat.le_of_ble_eq_true rfl) ?_
  refine W.eq (g2 := F0 m 4 ls []) rfl ?_
  refine lv_aload_n hx hb dX2_init_4 rfl (lv_at hl 0 rfl) ?_
  refine lv_sipush (v := 240) hx hb dX2_init_5 (by decide) ?_
  refine r_newb (N := 240) F hK hP hD hS hA wm_136 (by decide) (by decide) (by decide) (by show 0 + 1 ≤ 9; omega) (by show 0 + 240 ≤ 240 + 4 + (402 + 402 + 2 + (2400)) + 1 + (9) + 240; omega) dX2_init_8 (fun q8 H hP hD hS => ?_)
  have hP : va_P D vwCl [(a0, .inr (4, [.null, .null, .null, .null, .int 0, .int 0, .int 0, .int 0, .int 0, .int 0])), (q8, .inl (cB, 240, .inl (fun _ => 0)))] H := hP
  have hD : va_D _ [(a0, .inr (4, [.null, .null, .null, .null, .int 0, .int 0, .int 0, .int 0, .int 0, .int 0])), (q8, .inl (cB, 240, .inl (fun _ => 0)))] := hD
  refine W.widen (k := 1) (n := 240) (by omega) (by omega) ?_
  refine r_putF (wn := [(a0, .inr (4, [.ref q8, .null, .null, .null, .int 0, .int 0, .int 0, .int 0, .int 0, .int 0])), (q8, .inl (cB, 240, .inl (fun _ => 0)))]) F hin hK hP hD hS 0 0 rfl inW_X2 wm_165 tyX2_ok nmX2 rfl rfl rfl (by decide) rfl rfl (Nat.le_of_ble_eq_true rfl) rfl dX2_init_10 (fun H locs hP hD hS => ?_)
  refine lv_aload_n hx hb dX2_init_13 rfl (lv_at hl 0 rfl) ?_
  refine r_new (ci := 2) (C := RX0) (T := TX0) (N := 4) F hK hP hD hS hA rfl inW_X0 tyX0_ok wm_110 wm_111 wm_73 [.null, .null, .null, .int 0] (by decide) (by show 1 + 1 ≤ 9; omega) (by show 240 + 4 ≤ 240 + 4 + (402 + 402 + 2 + (2400)) + 1 + (9) + 240; omega) dX2_init_14 (fun q14 H hP hD hS => ?_)
  have hP : va_P D vwCl [(a0, .inr (4, [.ref q8, .null, .null, .null, .int 0, .int 0, .int 0, .int 0, .int 0, .int 0])), (q8, .inl (cB, 240, .inl (fun _ => 0))), (q14, .inr (2, [.null, .null, .null, .int 0]))] H := hP
  have hD : va_D _ [(a0, .inr (4, [.ref q8, .null, .null, .null, .int 0, .int 0, .int 0, .int 0, .int 0, .int 0])), (q8, .inl (cB, 240, .inl (fun _ => 0))), (q14, .inr (2, [.null, .null, .null, .int 0]))] := hD
  refine W.widen (k := 2) (n := 240 + 4) (by omega) (by omega) ?_
  refine lv_dup hx hb dX2_init_17 rfl ?_
  refine lv_sipush (v := 240) hx hb dX2_init_18 (by decide) ?_
  refine k_i (As := [.int 240]) (rest := [.ref q14, .ref a0]) F hNw hK hP hD hS hA (c_X0_init l D cI cJ cB q14 _ 240 2400 (by decide) (by decide) (by decide)) wm_112 ci_X0_init [2] [0, 1] ⟨rfl, rfl, by decide, rfl⟩ rfl rfl ⟨rfl, rfl, Nat.le_of_ble_eq_true rfl, Nat.le_of_ble_eq_true rfl⟩ hl.1 rfl (Nat.le_of_ble_eq_true rfl) ⟨by show 2 + 4 ≤ 9; omega, by show 240 + 4 + (402 + 402 + 2 + (2400)) ≤ 240 + 4 + (402 + 402 + 2 + (2400)) + 1 + (9) + 240; omega⟩ dX2_init_21 (fun r21 H locs hP hD hS => ?_)
  have hP : va_P D vwCl [(a0, .inr (4, [.ref q8, .null, .null, .null, .int 0, .int 0, .int 0, .int 0, .int 0, .int 0])), (q8, .inl (cB, 240, .inl (fun _ => 0))), (q14, .inr (2, [.ref (r21 2), .ref (r21 0), .ref (r21 1), .int 0])), ((r21 0), .inl (cI, 402, .inl (fun _ => 0))), ((r21 1), .inl (cI, 402, .inl (fun _ => 0))), ((r21 2), .inr (7, [.ref (r21 3), .int 0])), ((r21 3), .inl (cI, 2400, .inl (fun _ => 0)))] H := hP
  have hD : va_D _ [(a0, .inr (4, [.ref q8, .null, .null, .null, .int 0, .int 0, .int 0, .int 0, .int 0, .int 0])), (q8, .inl (cB, 240, .inl (fun _ => 0))), (q14, .inr (2, [.ref (r21 2), .ref (r21 0), .ref (r21 1), .int 0])), ((r21 0), .inl (cI, 402, .inl (fun _ => 0))), ((r21 1), .inl (cI, 402, .inl (fun _ => 0))), ((r21 2), .inr (7, [.ref (r21 3), .int 0])), ((r21 3), .inl (cI, 2400, .inl (fun _ => 0)))] := hD
  refine W.widen (k := 6) (n := 240 + 4 + (402 + 402 + 2 + (2400))) (by omega) (by omega) ?_
  refine r_putF (wn := [(a0, .inr (4, [.ref q8, .ref q14, .null, .null, .int 0, .int 0, .int 0, .int 0, .int 0, .int 0])), (q8, .inl (cB, 240, .inl (fun _ => 0))), (q14, .inr (2, [.ref (r21 2), .ref (r21 0), .ref (r21 1), .int 0])), ((r21 0), .inl (cI, 402, .inl (fun _ => 0))), ((r21 1), .inl (cI, 402, .inl (fun _ => 0))), ((r21 2), .inr (7, [.ref (r21 3), .int 0])), ((r21 3), .inl (cI, 2400, .inl (fun _ => 0)))]) F hin hK hP hD hS 0 1 rfl inW_X2 wm_166 tyX2_ok nmX2 rfl rfl rfl (by decide) rfl rfl (Nat.le_of_ble_eq_true rfl) rfl dX2_init_24 (fun H locs hP hD hS => ?_)
  refine lv_aload_n hx hb dX2_init_27 rfl (lv_at hl 0 rfl) ?_
  refine r_new (ci := 6) (C := RX4) (T := TX4) (N := 1) F hK hP hD hS hA rfl inW_X4 tyX4_ok wm_153 wm_154 wm_76 [.null] (by decide) (by show 6 + 1 ≤ 9; omega) (by show 240 + 4 + (402 + 402 + 2 + (2400)) + 1 ≤ 240 + 4 + (402 + 402 + 2 + (2400)) + 1 + (9) + 240; omega) dX2_init_28 (fun q28 H hP hD hS => ?_)
  have hP : va_P D vwCl [(a0, .inr (4, [.ref q8, .ref q14, .null, .null, .int 0, .int 0, .int 0, .int 0, .int 0, .int 0])), (q8, .inl (cB, 240, .inl (fun _ => 0))), (q14, .inr (2, [.ref (r21 2), .ref (r21 0), .ref (r21 1), .int 0])), ((r21 0), .inl (cI, 402, .inl (fun _ => 0))), ((r21 1), .inl (cI, 402, .inl (fun _ => 0))), ((r21 2), .inr (7, [.ref (r21 3), .int 0])), ((r21 3), .inl (cI, 2400, .inl (fun _ => 0))), (q28, .inr (6, [.null]))] H := hP
  have hD : va_D _ [(a0, .inr (4, [.ref q8, .ref q14, .null, .null, .int 0, .int 0, .int 0, .int 0, .int 0, .int 0])), (q8, .inl (cB, 240, .inl (fun _ => 0))), (q14, .inr (2, [.ref (r21 2), .ref (r21 0), .ref (r21 1), .int 0])), ((r21 0), .inl (cI, 402, .inl (fun _ => 0))), ((r21 1), .inl (cI, 402, .inl (fun _ => 0))), ((r21 2), .inr (7, [.ref (r21 3), .int 0])), ((r21 3), .inl (cI, 2400, .inl (fun _ => 0))), (q28, .inr (6, [.null]))] := hD
  refine W.widen (k := 7) (n := 240 + 4 + (402 + 402 + 2 + (2400)) + 1) (by omega) (by omega) ?_
  refine lv_dup hx hb dX2_init_31 rfl ?_
  refine k_iN (As := []) (rest := [.ref q28, .ref a0]) F hNw hK hP hD hS hA (c_X4_init l D cI cJ cB q28 _) nm_X2_26 ci_X4_init [7] [0, 1, 2, 3, 4, 5, 6] ⟨rfl, rfl, by decide, rfl⟩ rfl rfl ⟨rfl, rfl, Nat.le_of_ble_eq_true rfl, Nat.le_of_ble_eq_true rfl⟩ hl.1 rfl (Nat.le_of_ble_eq_true rfl) ⟨by show 7 + 1 ≤ 9; omega, by show 240 + 4 + (402 + 402 + 2 + (2400)) + 1 + (9) ≤ 240 + 4 + (402 + 402 + 2 + (2400)) + 1 + (9) + 240; omega⟩ dX2_init_32 (fun r32 H locs hP hD hS => ?_)
  have hP : va_P D vwCl [(a0, .inr (4, [.ref q8, .ref q14, .null, .null, .int 0, .int 0, .int 0, .int 0, .int 0, .int 0])), (q8, .inl (cB, 240, .inl (fun _ => 0))), (q14, .inr (2, [.ref (r21 2), .ref (r21 0), .ref (r21 1), .int 0])), ((r21 0), .inl (cI, 402, .inl (fun _ => 0))), ((r21 1), .inl (cI, 402, .inl (fun _ => 0))), ((r21 2), .inr (7, [.ref (r21 3), .int 0])), ((r21 3), .inl (cI, 2400, .inl (fun _ => 0))), (q28, .inr (6, [.ref (r32 0)])), ((r32 0), .inl (cJ, 9, .inr (.inl (fun _ => 0))))] H := hP
  have hD : va_D _ [(a0, .inr (4, [.ref q8, .ref q14, .null, .null, .int 0, .int 0, .int 0, .int 0, .int 0, .int 0])), (q8, .inl (cB, 240, .inl (fun _ => 0))), (q14, .inr (2, [.ref (r21 2), .ref (r21 0), .ref (r21 1), .int 0])), ((r21 0), .inl (cI, 402, .inl (fun _ => 0))), ((r21 1), .inl (cI, 402, .inl (fun _ => 0))), ((r21 2), .inr (7, [.ref (r21 3), .int 0])), ((r21 3), .inl (cI, 2400, .inl (fun _ => 0))), (q28, .inr (6, [.ref (r32 0)])), ((r32 0), .inl (cJ, 9, .inr (.inl (fun _ => 0))))] := hD
  refine W.widen (k := 8) (n := 240 + 4 + (402 + 402 + 2 + (2400)) + 1 + (9)) (by omega) (by omega) ?_
  refine r_putF (wn := [(a0, .inr (4, [.ref q8, .ref q14, .ref q28, .null, .int 0, .int 0, .int 0, .int 0, .int 0, .int 0])), (q8, .inl (cB, 240, .inl (fun _ => 0))), (q14, .inr (2, [.ref (r21 2), .ref (r21 0), .ref (r21 1), .int 0])), ((r21 0), .inl (cI, 402, .inl (fun _ => 0))), ((r21 1), .inl (cI, 402, .inl (fun _ => 0))), ((r21 2), .inr (7, [.ref (r21 3), .int 0])), ((r21 3), .inl (cI, 2400, .inl (fun _ => 0))), (q28, .inr (6, [.ref (r32 0)])), ((r32 0), .inl (cJ, 9, .inr (.inl (fun _ => 0))))]) F hin hK hP hD hS 0 2 rfl inW_X2 wm_168 tyX2_ok nmX2 rfl rfl rfl (by decide) rfl rfl (Nat.le_of_ble_eq_true rfl) rfl dX2_init_35 (fun H locs hP hD hS => ?_)
  refine lv_aload_n hx hb dX2_init_38 rfl (lv_at hl 0 rfl) ?_
  refine lv_sipush (v := 240) hx hb dX2_init_39 (by decide) ?_
  refine r_newi (N := 240) F hK hP hD hS hA wm_137 (by decide) (by decide) (by decide) (by show 8 + 1 ≤ 9; omega) (by show 240 + 4 + (402 + 402 + 2 + (2400)) + 1 + (9) + 240 ≤ 240 + 4 + (402 + 402 + 2 + (2400)) + 1 + (9) + 240; omega) dX2_init_42 (fun q42 H hP hD hS => ?_)
  have hP : va_P D vwCl [(a0, .inr (4, [.ref q8, .ref q14, .ref q28, .null, .int 0, .int 0, .int 0, .int 0, .int 0, .int 0])), (q8, .inl (cB, 240, .inl (fun _ => 0))), (q14, .inr (2, [.ref (r21 2), .ref (r21 0), .ref (r21 1), .int 0])), ((r21 0), .inl (cI, 402, .inl (fun _ => 0))), ((r21 1), .inl (cI, 402, .inl (fun _ => 0))), ((r21 2), .inr (7, [.ref (r21 3), .int 0])), ((r21 3), .inl (cI, 2400, .inl (fun _ => 0))), (q28, .inr (6, [.ref (r32 0)])), ((r32 0), .inl (cJ, 9, .inr (.inl (fun _ => 0)))), (q42, .inl (cI, 240, .inl (fun _ => 0)))] H := hP
  have hD : va_D _ [(a0, .inr (4, [.ref q8, .ref q14, .ref q28, .null, .int 0, .int 0, .int 0, .int 0, .int 0, .int 0])), (q8, .inl (cB, 240, .inl (fun _ => 0))), (q14, .inr (2, [.ref (r21 2), .ref (r21 0), .ref (r21 1), .int 0])), ((r21 0), .inl (cI, 402, .inl (fun _ => 0))), ((r21 1), .inl (cI, 402, .inl (fun _ => 0))), ((r21 2), .inr (7, [.ref (r21 3), .int 0])), ((r21 3), .inl (cI, 2400, .inl (fun _ => 0))), (q28, .inr (6, [.ref (r32 0)])), ((r32 0), .inl (cJ, 9, .inr (.inl (fun _ => 0)))), (q42, .inl (cI, 240, .inl (fun _ => 0)))] := hD
  refine W.widen (k := 9) (n := 240 + 4 + (402 + 402 + 2 + (2400)) + 1 + (9) + 240) (by omega) (by omega) ?_
  refine r_putF (wn := [(a0, .inr (4, [.ref q8, .ref q14, .ref q28, .ref q42, .int 0, .int 0, .int 0, .int 0, .int 0, .int 0])), (q8, .inl (cB, 240, .inl (fun _ => 0))), (q14, .inr (2, [.ref (r21 2), .ref (r21 0), .ref (r21 1), .int 0])), ((r21 0), .inl (cI, 402, .inl (fun _ => 0))), ((r21 1), .inl (cI, 402, .inl (fun _ => 0))), ((r21 2), .inr (7, [.ref (r21 3), .int 0])), ((r21 3), .inl (cI, 2400, .inl (fun _ => 0))), (q28, .inr (6, [.ref (r32 0)])), ((r32 0), .inl (cJ, 9, .inr (.inl (fun _ => 0)))), (q42, .inl (cI, 240, .inl (fun _ => 0)))]) F hin hK hP hD hS 0 3 rfl inW_X2 wm_169 tyX2_ok nmX2 rfl rfl rfl (by decide) rfl rfl (Nat.le_of_ble_eq_true rfl) rfl dX2_init_44 (fun H locs hP hD hS => ?_)
  have hP := hP.sub (ws' := [(a0, .inr (4, [.ref q8, .ref q14, .ref q28, .ref q42, .int 0, .int 0, .int 0, .int 0, .int 0, .int 0])), (q8, .inl (cB, 240, .inl (fun _ => 0))), (q14, .inr (2, [.ref (r21 2), .ref (r21 0), .ref (r21 1), .int 0])), ((r21 0), .inl (cI, 402, .inl (fun _ => 0))), ((r21 1), .inl (cI, 402, .inl (fun _ => 0))), ((r21 2), .inr (7, [.ref (r21 3), .int 0])), ((r21 3), .inl (cI, 2400, .inl (fun _ => 0))), (q28, .inr (6, [.ref (r32 0)])), ((r32 0), .inl (cJ, 9, .inr (.inl (fun _ => 0)))), (q42, .inl (cI, 240, .inl (fun _ => 0)))]) [0, 1, 2, 3, 4, 5, 6, 7, 8, 9] rfl
  have hD := hD.sub (ws' := [(a0, .inr (4, [.ref q8, .ref q14, .ref q28, .ref q42, .int 0, .int 0, .int 0, .int 0, .int 0, .int 0])), (q8, .inl (cB, 240, .inl (fun _ => 0))), (q14, .inr (2, [.ref (r21 2), .ref (r21 0), .ref (r21 1), .int 0])), ((r21 0), .inl (cI, 402, .inl (fun _ => 0))), ((r21 1), .inl (cI, 402, .inl (fun _ => 0))), ((r21 2), .inr (7, [.ref (r21 3), .int 0])), ((r21 3), .inl (cI, 2400, .inl (fun _ => 0))), (q28, .inr (6, [.ref (r32 0)])), ((r32 0), .inl (cJ, 9, .inr (.inl (fun _ => 0)))), (q42, .inl (cI, 240, .inl (fun _ => 0)))]) [0, 1, 2, 3, 4, 5, 6, 7, 8, 9] (by decide) rfl
  exact r_aret F hr hlk dX2_init_47 (fun i => ([q8, q14, (r21 0), (r21 1), (r21 2), (r21 3), q28, (r32 0), q42] : List Nat).getD i 0) hP hD hS
set_option maxHeartbeats 4000000 in
set_option maxRecDepth 100000 in
theorem c_X1_init (l : Launch) (D : va_G) (cI cJ cB : ClassId) (a0 sz : Nat) : Mc l yX1_init cX1_init 1 ({ frames := 3, cells := 12, slots := 4 + (402 + 402 + 2 + (12000)) + 2 + (4000) + 1 + (9) + 4411 + 400 + 400, locals := 82 } : Room) D (ty0 cI cJ cB) [.ref a0] sz [(a0, .inr (3, [.null, .null, .null, .null, .null, .null, .int 0, .int 0, .int 0]))] (fun q => [(a0, .inr (3, [.ref (q 0), .ref (q 5), .ref (q 7), .ref (q 9), .ref (q 10), .ref (q 11), .int 0, .int 0, .int 0])), ((q 0), .inr (2, [.ref (q 3), .ref (q 1), .ref (q 2), .int 0])), ((q 1), .inl (cI, 402, .inl (fun _ => 0))), ((q 2), .inl (cI, 402, .inl (fun _ => 0))), ((q 3), .inr (7, [.ref (q 4), .int 0])), ((q 4), .inl (cI, 12000, .inl (fun _ => 0))), ((q 5), .inr (7, [.ref (q 6), .int 0])), ((q 6), .inl (cI, 4000, .inl (fun _ => 0))), ((q 7), .inr (6, [.ref (q 8)])), ((q 8), .inl (cJ, 9, .inr (.inl (fun _ => 0)))), ((q 9), .inl (cI, 4411, .inl (fun _ => 0))), ((q 10), .inl (cI, 400, .inl (fun _ => 0))), ((q 11), .inl (cI, 400, .inl (fun _ => 0)))]) 12 (4 + (402 + 402 + 2 + (12000)) + 2 + (4000) + 1 + (9) + 4411 + 400 + 400) := by
  refine Mc.of (by decide) (Nat.le_of_ble_eq_true rfl) ?_
  intro p e s m below meth c CX hin hK hsz hP hD ls hl
  have CX : Cx p m c cX1_init 1 s ([.ref a0] : List Value).toArray (Cond.code yX1_init cX1_init 1 none) RX1 meth none := CX
  obtain ⟨F, hr, hlk, hNw⟩ := id CX
  have hx := F.1
  have hb := F.2.1
  have hown := F.2.2.2.1
  have hl : lv_has ls 1 [(0, .ref a0)] := hl
  have hS : va_S (va_A [(a0, .inr (3, [.null, .null, .null, .null, .null, .null, .int 0, .int 0, .int 0]))] sz) s.heap s.heap [] := va_S.rf
  have hA : ∀ q, s.heap.size ≤ q → va_A [(a0, .inr (3, [.null, .null, .null, .null, .null, .null, .int 0, .int 0, .int 0]))] sz q := fun q hq => Or.inr (hsz ▸ hq)
  refine lv_aload_n hx hb dX1_init_0 rfl (lv_at hl 0 rfl) ?_
  refine W.objInit hx hb hown (F.2.2.2.2 _ (q_in wm_203)) (F.2.2.2.2 _ (q_in wm_102)) (F.2.2.2.2 _ (q_in wm_103)) rfl (hl.1.trans F.2.2.1.symm) rfl dX1_init_1 (Nat.le_of_ble_eq_true rfl) (Nat.le_of_ble_eq_true rfl) ?_
  refine W.eq (g2 := F0 m 4 ls []) rfl ?_
  refine lv_aload_n hx hb dX1_init_4 rfl (lv_at hl 0 rfl) ?_
  refine r_new (ci := 2) (C := RX0) (T := TX0) (N := 4) F hK hP hD hS hA rfl inW_X0 tyX0_ok wm_204 wm_111 wm_73 [.null, .null, .null, .int 0] (by decide) (by show 0 + 1 ≤ 12; omega) (by show 0 + 4 ≤ 4 + (402 + 402 + 2 + (12000)) + 2 + (4000) + 1 + (9) + 4411 + 400 + 400; omega) dX1_init_5 (fun q5 H hP hD hS => ?_)
  have hP : va_P D vwCl [(a0, .inr (3, [.null, .null, .null, .null, .null, .null, .int 0, .int 0, .int 0])), (q5, .inr (2, [.null, .null, .null, .int 0]))] H := hP
  have hD : va_D _ [(a0, .inr (3, [.null, .null, .null, .null, .null, .null, .int 0, .int 0, .int 0])), (q5, .inr (2, [.null, .null, .null, .int 0]))] := hD
  refine W.widen (k := 1) (n := 4) (by omega) (by omega) ?_
  refine lv_dup hx hb dX1_init_8 rfl ?_
  refine lv_sipush (v := 1200) hx hb dX1_init_9 (by decide) ?_
  refine k_i (As := [.int 1200]) (rest := [.ref q5, .ref a0]) F hNw hK hP hD hS hA (c_X0_init l D cI cJ cB q5 _ 1200 12000 (by decide) (by decide) (by decide)) wm_205 ci_X0_init [1] [0] ⟨rfl, rfl, by decide, rfl⟩ rfl rfl ⟨rfl, rfl, Nat.le_of_ble_eq_true rfl, Nat.le_of_ble_eq_true rfl⟩ hl.1 rfl (Nat.le_of_ble_eq_true rfl) ⟨by show 1 + 4 ≤ 12; omega, by show 4 + (402 + 402 + 2 + (12000)) ≤ 4 + (402 + 402 + 2 + (12000)) + 2 + (4000) + 1 + (9) + 4411 + 400 + 400; omega⟩ dX1_init_12 (fun r12 H locs hP hD hS => ?_)
  have hP : va_P D vwCl [(a0, .inr (3, [.null, .null, .null, .null, .null, .null, .int 0, .int 0, .int 0])), (q5, .inr (2, [.ref (r12 2), .ref (r12 0), .ref (r12 1), .int 0])), ((r12 0), .inl (cI, 402, .inl (fun _ => 0))), ((r12 1), .inl (cI, 402, .inl (fun _ => 0))), ((r12 2), .inr (7, [.ref (r12 3), .int 0])), ((r12 3), .inl (cI, 12000, .inl (fun _ => 0)))] H := hP
  have hD : va_D _ [(a0, .inr (3, [.null, .null, .null, .null, .null, .null, .int 0, .int 0, .int 0])), (q5, .inr (2, [.ref (r12 2), .ref (r12 0), .ref (r12 1), .int 0])), ((r12 0), .inl (cI, 402, .inl (fun _ => 0))), ((r12 1), .inl (cI, 402, .inl (fun _ => 0))), ((r12 2), .inr (7, [.ref (r12 3), .int 0])), ((r12 3), .inl (cI, 12000, .inl (fun _ => 0)))] := hD
  refine W.widen (k := 5) (n := 4 + (402 + 402 + 2 + (12000))) (by omega) (by omega) ?_
  refine r_putF (wn := [(a0, .inr (3, [.ref q5, .null, .null, .null, .null, .null, .int 0, .int 0, .int 0])), (q5, .inr (2, [.ref (r12 2), .ref (r12 0), .ref (r12 1), .int 0])), ((r12 0), .inl (cI, 402, .inl (fun _ => 0))), ((r12 1), .inl (cI, 402, .inl (fun _ => 0))), ((r12 2), .inr (7, [.ref (r12 3), .int 0])), ((r12 3), .inl (cI, 12000, .inl (fun _ => 0)))]) F hin hK hP hD hS 0 0 rfl inW_X1 wm_210 tyX1_ok nmX1 rfl rfl rfl (by decide) rfl rfl (Nat.le_of_ble_eq_true rfl) rfl dX1_init_15 (fun H locs hP hD hS => ?_)
  refine lv_aload_n hx hb dX1_init_18 rfl (lv_at hl 0 rfl) ?_
  refine r_new (ci := 7) (C := RX5) (T := TX5) (N := 2) F hK hP hD hS hA rfl inW_X5 tyX5_ok wm_206 wm_117 wm_74 [.null, .int 0] (by decide) (by show 5 + 1 ≤ 12; omega) (by show 4 + (402 + 402 + 2 + (12000)) + 2 ≤ 4 + (402 + 402 + 2 + (12000)) + 2 + (4000) + 1 + (9) + 4411 + 400 + 400; omega) dX1_init_19 (fun q19 H hP hD hS => ?_)
  have hP : va_P D vwCl [(a0, .inr (3, [.ref q5, .null, .null, .null, .null, .null, .int 0, .int 0, .int 0])), (q5, .inr (2, [.ref (r12 2), .ref (r12 0), .ref (r12 1), .int 0])), ((r12 0), .inl (cI, 402, .inl (fun _ => 0))), ((r12 1), .inl (cI, 402, .inl (fun _ => 0))), ((r12 2), .inr (7, [.ref (r12 3), .int 0])), ((r12 3), .inl (cI, 12000, .inl (fun _ => 0))), (q19, .inr (7, [.null, .int 0]))] H := hP
  have hD : va_D _ [(a0, .inr (3, [.ref q5, .null, .null, .null, .null, .null, .int 0, .int 0, .int 0])), (q5, .inr (2, [.ref (r12 2), .ref (r12 0), .ref (r12 1), .int 0])), ((r12 0), .inl (cI, 402, .inl (fun _ => 0))), ((r12 1), .inl (cI, 402, .inl (fun _ => 0))), ((r12 2), .inr (7, [.ref (r12 3), .int 0])), ((r12 3), .inl (cI, 12000, .inl (fun _ => 0))), (q19, .inr (7, [.null, .int 0]))] := hD
  refine W.widen (k := 6) (n := 4 + (402 + 402 + 2 + (12000)) + 2) (by omega) (by omega) ?_
  refine lv_dup hx hb dX1_init_22 rfl ?_
  refine lv_sipush (v := 400) hx hb dX1_init_23 (by decide) ?_
  refine k_i (As := [.int 400]) (rest := [.ref q19, .ref a0]) F hNw hK hP hD hS hA (c_X5_init l D cI cJ cB q19 _ 400 4000 (by decide) (by decide) (by decide)) wm_207 ci_X5_init [6] [0, 1, 2, 3, 4, 5] ⟨rfl, rfl, by decide, rfl⟩ rfl rfl ⟨rfl, rfl, Nat.le_of_ble_eq_true rfl, Nat.le_of_ble_eq_true rfl⟩ hl.1 rfl (Nat.le_of_ble_eq_true rfl) ⟨by show 6 + 1 ≤ 12; omega, by show 4 + (402 + 402 + 2 + (12000)) + 2 + (4000) ≤ 4 + (402 + 402 + 2 + (12000)) + 2 + (4000) + 1 + (9) + 4411 + 400 + 400; omega⟩ dX1_init_26 (fun r26 H locs hP hD hS => ?_)
  have hP : va_P D vwCl [(a0, .inr (3, [.ref q5, .null, .null, .null, .null, .null, .int 0, .int 0, .int 0])), (q5, .inr (2, [.ref (r12 2), .ref (r12 0), .ref (r12 1), .int 0])), ((r12 0), .inl (cI, 402, .inl (fun _ => 0))), ((r12 1), .inl (cI, 402, .inl (fun _ => 0))), ((r12 2), .inr (7, [.ref (r12 3), .int 0])), ((r12 3), .inl (cI, 12000, .inl (fun _ => 0))), (q19, .inr (7, [.ref (r26 0), .int 0])), ((r26 0), .inl (cI, 4000, .inl (fun _ => 0)))] H := hP
  have hD : va_D _ [(a0, .inr (3, [.ref q5, .null, .null, .null, .null, .null, .int 0, .int 0, .int 0])), (q5, .inr (2, [.ref (r12 2), .ref (r12 0), .ref (r12 1), .int 0])), ((r12 0), .inl (cI, 402, .inl (fun _ => 0))), ((r12 1), .inl (cI, 402, .inl (fun _ => 0))), ((r12 2), .inr (7, [.ref (r12 3), .int 0])), ((r12 3), .inl (cI, 12000, .inl (fun _ => 0))), (q19, .inr (7, [.ref (r26 0), .int 0])), ((r26 0), .inl (cI, 4000, .inl (fun _ => 0)))] := hD
  refine W.widen (k := 7) (n := 4 + (402 + 402 + 2 + (12000)) + 2 + (4000)) (by omega) (by omega) ?_
  refine r_putF (wn := [(a0, .inr (3, [.ref q5, .ref q19, .null, .null, .null, .null, .int 0, .int 0, .int 0])), (q5, .inr (2, [.ref (r12 2), .ref (r12 0), .ref (r12 1), .int 0])), ((r12 0), .inl (cI, 402, .inl (fun _ => 0))), ((r12 1), .inl (cI, 402, .inl (fun _ => 0))), ((r12 2), .inr (7, [.ref (r12 3), .int 0])), ((r12 3), .inl (cI, 12000, .inl (fun _ => 0))), (q19, .inr (7, [.ref (r26 0), .int 0])), ((r26 0), .inl (cI, 4000, .inl (fun _ => 0)))]) F hin hK hP hD hS 0 1 rfl inW_X1 wm_212 tyX1_ok nmX1 rfl rfl rfl (by decide) rfl rfl (Nat.le_of_ble_eq_true rfl) rfl dX1_init_29 (fun H locs hP hD hS => ?_)
  refine lv_aload_n hx hb dX1_init_32 rfl (lv_at hl 0 rfl) ?_
  refine r_new (ci := 6) (C := RX4) (T := TX4) (N := 1) F hK hP hD hS hA rfl inW_X4 tyX4_ok wm_208 wm_154 wm_76 [.null] (by decide) (by show 7 + 1 ≤ 12; omega) (by show 4 + (402 + 402 + 2 + (12000)) + 2 + (4000) + 1 ≤ 4 + (402 + 402 + 2 + (12000)) + 2 + (4000) + 1 + (9) + 4411 + 400 + 400; omega) dX1_init_33 (fun q33 H hP hD hS => ?_)
  have hP : va_P D vwCl [(a0, .inr (3, [.ref q5, .ref q19, .null, .null, .null, .null, .int 0, .int 0, .int 0])), (q5, .inr (2, [.ref (r12 2), .ref (r12 0), .ref (r12 1), .int 0])), ((r12 0), .inl (cI, 402, .inl (fun _ => 0))), ((r12 1), .inl (cI, 402, .inl (fun _ => 0))), ((r12 2), .inr (7, [.ref (r12 3), .int 0])), ((r12 3), .inl (cI, 12000, .inl (fun _ => 0))), (q19, .inr (7, [.ref (r26 0), .int 0])), ((r26 0), .inl (cI, 4000, .inl (fun _ => 0))), (q33, .inr (6, [.null]))] H := hP
  have hD : va_D _ [(a0, .inr (3, [.ref q5, .ref q19, .null, .null, .null, .null, .int 0, .int 0, .int 0])), (q5, .inr (2, [.ref (r12 2), .ref (r12 0), .ref (r12 1), .int 0])), ((r12 0), .inl (cI, 402, .inl (fun _ => 0))), ((r12 1), .inl (cI, 402, .inl (fun _ => 0))), ((r12 2), .inr (7, [.ref (r12 3), .int 0])), ((r12 3), .inl (cI, 12000, .inl (fun _ => 0))), (q19, .inr (7, [.ref (r26 0), .int 0])), ((r26 0), .inl (cI, 4000, .inl (fun _ => 0))), (q33, .inr (6, [.null]))] := hD
  refine W.widen (k := 8) (n := 4 + (402 + 402 + 2 + (12000)) + 2 + (4000) + 1) (by omega) (by omega) ?_
  refine lv_dup hx hb dX1_init_36 rfl ?_
  refine k_iN (As := []) (rest := [.ref q33, .ref a0]) F hNw hK hP hD hS hA (c_X4_init l D cI cJ cB q33 _) nm_X1_29 ci_X4_init [8] [0, 1, 2, 3, 4, 5, 6, 7] ⟨rfl, rfl, by decide, rfl⟩ rfl rfl ⟨rfl, rfl, Nat.le_of_ble_eq_true rfl, Nat.le_of_ble_eq_true rfl⟩ hl.1 rfl (Nat.le_of_ble_eq_true rfl) ⟨by show 8 + 1 ≤ 12; omega, by show 4 + (402 + 402 + 2 + (12000)) + 2 + (4000) + 1 + (9) ≤ 4 + (402 + 402 + 2 + (12000)) + 2 + (4000) + 1 + (9) + 4411 + 400 + 400; omega⟩ dX1_init_37 (fun r37 H locs hP hD hS => ?_)
  have hP : va_P D vwCl [(a0, .inr (3, [.ref q5, .ref q19, .null, .null, .null, .null, .int 0, .int 0, .int 0])), (q5, .inr (2, [.ref (r12 2), .ref (r12 0), .ref (r12 1), .int 0])), ((r12 0), .inl (cI, 402, .inl (fun _ => 0))), ((r12 1), .inl (cI, 402, .inl (fun _ => 0))), ((r12 2), .inr (7, [.ref (r12 3), .int 0])), ((r12 3), .inl (cI, 12000, .inl (fun _ => 0))), (q19, .inr (7, [.ref (r26 0), .int 0])), ((r26 0), .inl (cI, 4000, .inl (fun _ => 0))), (q33, .inr (6, [.ref (r37 0)])), ((r37 0), .inl (cJ, 9, .inr (.inl (fun _ => 0))))] H := hP
  have hD : va_D _ [(a0, .inr (3, [.ref q5, .ref q19, .null, .null, .null, .null, .int 0, .int 0, .int 0])), (q5, .inr (2, [.ref (r12 2), .ref (r12 0), .ref (r12 1), .int 0])), ((r12 0), .inl (cI, 402, .inl (fun _ => 0))), ((r12 1), .inl (cI, 402, .inl (fun _ => 0))), ((r12 2), .inr (7, [.ref (r12 3), .int 0])), ((r12 3), .inl (cI, 12000, .inl (fun _ => 0))), (q19, .inr (7, [.ref (r26 0), .int 0])), ((r26 0), .inl (cI, 4000, .inl (fun _ => 0))), (q33, .inr (6, [.ref (r37 0)])), ((r37 0), .inl (cJ, 9, .inr (.inl (fun _ => 0))))] := hD
  refine W.widen (k := 9) (n := 4 + (402 + 402 + 2 + (12000)) + 2 + (4000) + 1 + (9)) (by omega) (by omega) ?_
  refine r_putF (wn := [(a0, .inr (3, [.ref q5, .ref q19, .ref q33, .null, .null, .null, .int 0, .int 0, .int 0])), (q5, .inr (2, [.ref (r12 2), .ref (r12 0), .ref (r12 1), .int 0])), ((r12 0), .inl (cI, 402, .inl (fun _ => 0))), ((r12 1), .inl (cI, 402, .inl (fun _ => 0))), ((r12 2), .inr (7, [.ref (r12 3), .int 0])), ((r12 3), .inl (cI, 12000, .inl (fun _ => 0))), (q19, .inr (7, [.ref (r26 0), .int 0])), ((r26 0), .inl (cI, 4000, .inl (fun _ => 0))), (q33, .inr (6, [.ref (r37 0)])), ((r37 0), .inl (cJ, 9, .inr (.inl (fun _ => 0))))]) F hin hK hP hD hS 0 2 rfl inW_X1 wm_213 tyX1_ok nmX1 rfl rfl rfl (by decide) rfl rfl (Nat.le_of_ble_eq_true rfl) rfl dX1_init_40 (fun H locs hP hD hS => ?_)
  refine lv_aload_n hx hb dX1_init_43 rfl (lv_at hl 0 rfl) ?_
  refine lv_sipush (v := 4411) hx hb dX1_init_44 (by decide) ?_
  refine r_newi (N := 4411) F hK hP hD hS hA wm_137 (by decide) (by decide) (by decide) (by show 9 + 1 ≤ 12; omega) (by show 4 + (402 + 402 + 2 + (12000)) + 2 + (4000) + 1 + (9) + 4411 ≤ 4 + (402 + 402 + 2 + (12000)) + 2 + (4000) + 1 + (9) + 4411 + 400 + 400; omega) dX1_init_47 (fun q47 H hP hD hS => ?_)
  have hP : va_P D vwCl [(a0, .inr (3, [.ref q5, .ref q19, .ref q33, .null, .null, .null, .int 0, .int 0, .int 0])), (q5, .inr (2, [.ref (r12 2), .ref (r12 0), .ref (r12 1), .int 0])), ((r12 0), .inl (cI, 402, .inl (fun _ => 0))), ((r12 1), .inl (cI, 402, .inl (fun _ => 0))), ((r12 2), .inr (7, [.ref (r12 3), .int 0])), ((r12 3), .inl (cI, 12000, .inl (fun _ => 0))), (q19, .inr (7, [.ref (r26 0), .int 0])), ((r26 0), .inl (cI, 4000, .inl (fun _ => 0))), (q33, .inr (6, [.ref (r37 0)])), ((r37 0), .inl (cJ, 9, .inr (.inl (fun _ => 0)))), (q47, .inl (cI, 4411, .inl (fun _ => 0)))] H := hP
  have hD : va_D _ [(a0, .inr (3, [.ref q5, .ref q19, .ref q33, .null, .null, .null, .int 0, .int 0, .int 0])), (q5, .inr (2, [.ref (r12 2), .ref (r12 0), .ref (r12 1), .int 0])), ((r12 0), .inl (cI, 402, .inl (fun _ => 0))), ((r12 1), .inl (cI, 402, .inl (fun _ => 0))), ((r12 2), .inr (7, [.ref (r12 3), .int 0])), ((r12 3), .inl (cI, 12000, .inl (fun _ => 0))), (q19, .inr (7, [.ref (r26 0), .int 0])), ((r26 0), .inl (cI, 4000, .inl (fun _ => 0))), (q33, .inr (6, [.ref (r37 0)])), ((r37 0), .inl (cJ, 9, .inr (.inl (fun _ => 0)))), (q47, .inl (cI, 4411, .inl (fun _ => 0)))] := hD
  refine W.widen (k := 10) (n := 4 + (402 + 402 + 2 + (12000)) + 2 + (4000) + 1 + (9) + 4411) (by omega) (by omega) ?_
  refine r_putF (wn := [(a0, .inr (3, [.ref q5, .ref q19, .ref q33, .ref q47, .null, .null, .int 0, .int 0, .int 0])), (q5, .inr (2, [.ref (r12 2), .ref (r12 0), .ref (r12 1), .int 0])), ((r12 0), .inl (cI, 402, .inl (fun _ => 0))), ((r12 1), .inl (cI, 402, .inl (fun _ => 0))), ((r12 2), .inr (7, [.ref (r12 3), .int 0])), ((r12 3), .inl (cI, 12000, .inl (fun _ => 0))), (q19, .inr (7, [.ref (r26 0), .int 0])), ((r26 0), .inl (cI, 4000, .inl (fun _ => 0))), (q33, .inr (6, [.ref (r37 0)])), ((r37 0), .inl (cJ, 9, .inr (.inl (fun _ => 0)))), (q47, .inl (cI, 4411, .inl (fun _ => 0)))]) F hin hK hP hD hS 0 3 rfl inW_X1 wm_214 tyX1_ok nmX1 rfl rfl rfl (by decide) rfl rfl (Nat.le_of_ble_eq_true rfl) rfl dX1_init_49 (fun H locs hP hD hS => ?_)
  refine lv_aload_n hx hb dX1_init_52 rfl (lv_at hl 0 rfl) ?_
  refine lv_sipush (v := 400) hx hb dX1_init_53 (by decide) ?_
  refine r_newi (N := 400) F hK hP hD hS hA wm_137 (by decide) (by decide) (by decide) (by show 10 + 1 ≤ 12; omega) (by show 4 + (402 + 402 + 2 + (12000)) + 2 + (4000) + 1 + (9) + 4411 + 400 ≤ 4 + (402 + 402 + 2 + (12000)) + 2 + (4000) + 1 + (9) + 4411 + 400 + 400; omega) dX1_init_56 (fun q56 H hP hD hS => ?_)
  have hP : va_P D vwCl [(a0, .inr (3, [.ref q5, .ref q19, .ref q33, .ref q47, .null, .null, .int 0, .int 0, .int 0])), (q5, .inr (2, [.ref (r12 2), .ref (r12 0), .ref (r12 1), .int 0])), ((r12 0), .inl (cI, 402, .inl (fun _ => 0))), ((r12 1), .inl (cI, 402, .inl (fun _ => 0))), ((r12 2), .inr (7, [.ref (r12 3), .int 0])), ((r12 3), .inl (cI, 12000, .inl (fun _ => 0))), (q19, .inr (7, [.ref (r26 0), .int 0])), ((r26 0), .inl (cI, 4000, .inl (fun _ => 0))), (q33, .inr (6, [.ref (r37 0)])), ((r37 0), .inl (cJ, 9, .inr (.inl (fun _ => 0)))), (q47, .inl (cI, 4411, .inl (fun _ => 0))), (q56, .inl (cI, 400, .inl (fun _ => 0)))] H := hP
  have hD : va_D _ [(a0, .inr (3, [.ref q5, .ref q19, .ref q33, .ref q47, .null, .null, .int 0, .int 0, .int 0])), (q5, .inr (2, [.ref (r12 2), .ref (r12 0), .ref (r12 1), .int 0])), ((r12 0), .inl (cI, 402, .inl (fun _ => 0))), ((r12 1), .inl (cI, 402, .inl (fun _ => 0))), ((r12 2), .inr (7, [.ref (r12 3), .int 0])), ((r12 3), .inl (cI, 12000, .inl (fun _ => 0))), (q19, .inr (7, [.ref (r26 0), .int 0])), ((r26 0), .inl (cI, 4000, .inl (fun _ => 0))), (q33, .inr (6, [.ref (r37 0)])), ((r37 0), .inl (cJ, 9, .inr (.inl (fun _ => 0)))), (q47, .inl (cI, 4411, .inl (fun _ => 0))), (q56, .inl (cI, 400, .inl (fun _ => 0)))] := hD
  refine W.widen (k := 11) (n := 4 + (402 + 402 + 2 + (12000)) + 2 + (4000) + 1 + (9) + 4411 + 400) (by omega) (by omega) ?_
  refine r_putF (wn := [(a0, .inr (3, [.ref q5, .ref q19, .ref q33, .ref q47, .ref q56, .null, .int 0, .int 0, .int 0])), (q5, .inr (2, [.ref (r12 2), .ref (r12 0), .ref (r12 1), .int 0])), ((r12 0), .inl (cI, 402, .inl (fun _ => 0))), ((r12 1), .inl (cI, 402, .inl (fun _ => 0))), ((r12 2), .inr (7, [.ref (r12 3), .int 0])), ((r12 3), .inl (cI, 12000, .inl (fun _ => 0))), (q19, .inr (7, [.ref (r26 0), .int 0])), ((r26 0), .inl (cI, 4000, .inl (fun _ => 0))), (q33, .inr (6, [.ref (r37 0)])), ((r37 0), .inl (cJ, 9, .inr (.inl (fun _ => 0)))), (q47, .inl (cI, 4411, .inl (fun _ => 0))), (q56, .inl (cI, 400, .inl (fun _ => 0)))]) F hin hK hP hD hS 0 4 rfl inW_X1 wm_215 tyX1_ok nmX1 rfl rfl rfl (by decide) rfl rfl (Nat.le_of_ble_eq_true rfl) rfl dX1_init_58 (fun H locs hP hD hS => ?_)
  refine lv_aload_n hx hb dX1_init_61 rfl (lv_at hl 0 rfl) ?_
  refine lv_sipush (v := 400) hx hb dX1_init_62 (by decide) ?_
  refine r_newi (N := 400) F hK hP hD hS hA wm_137 (by decide) (by decide) (by decide) (by show 11 + 1 ≤ 12; omega) (by show 4 + (402 + 402 + 2 + (12000)) + 2 + (4000) + 1 + (9) + 4411 + 400 + 400 ≤ 4 + (402 + 402 + 2 + (12000)) + 2 + (4000) + 1 + (9) + 4411 + 400 + 400; omega) dX1_init_65 (fun q65 H hP hD hS => ?_)
  have hP : va_P D vwCl [(a0, .inr (3, [.ref q5, .ref q19, .ref q33, .ref q47, .ref q56, .null, .int 0, .int 0, .int 0])), (q5, .inr (2, [.ref (r12 2), .ref (r12 0), .ref (r12 1), .int 0])), ((r12 0), .inl (cI, 402, .inl (fun _ => 0))), ((r12 1), .inl (cI, 402, .inl (fun _ => 0))), ((r12 2), .inr (7, [.ref (r12 3), .int 0])), ((r12 3), .inl (cI, 12000, .inl (fun _ => 0))), (q19, .inr (7, [.ref (r26 0), .int 0])), ((r26 0), .inl (cI, 4000, .inl (fun _ => 0))), (q33, .inr (6, [.ref (r37 0)])), ((r37 0), .inl (cJ, 9, .inr (.inl (fun _ => 0)))), (q47, .inl (cI, 4411, .inl (fun _ => 0))), (q56, .inl (cI, 400, .inl (fun _ => 0))), (q65, .inl (cI, 400, .inl (fun _ => 0)))] H := hP
  have hD : va_D _ [(a0, .inr (3, [.ref q5, .ref q19, .ref q33, .ref q47, .ref q56, .null, .int 0, .int 0, .int 0])), (q5, .inr (2, [.ref (r12 2), .ref (r12 0), .ref (r12 1), .int 0])), ((r12 0), .inl (cI, 402, .inl (fun _ => 0))), ((r12 1), .inl (cI, 402, .inl (fun _ => 0))), ((r12 2), .inr (7, [.ref (r12 3), .int 0])), ((r12 3), .inl (cI, 12000, .inl (fun _ => 0))), (q19, .inr (7, [.ref (r26 0), .int 0])), ((r26 0), .inl (cI, 4000, .inl (fun _ => 0))), (q33, .inr (6, [.ref (r37 0)])), ((r37 0), .inl (cJ, 9, .inr (.inl (fun _ => 0)))), (q47, .inl (cI, 4411, .inl (fun _ => 0))), (q56, .inl (cI, 400, .inl (fun _ => 0))), (q65, .inl (cI, 400, .inl (fun _ => 0)))] := hD
  refine W.widen (k := 12) (n := 4 + (402 + 402 + 2 + (12000)) + 2 + (4000) + 1 + (9) + 4411 + 400 + 400) (by omega) (by omega) ?_
  refine r_putF (wn := [(a0, .inr (3, [.ref q5, .ref q19, .ref q33, .ref q47, .ref q56, .ref q65, .int 0, .int 0, .int 0])), (q5, .inr (2, [.ref (r12 2), .ref (r12 0), .ref (r12 1), .int 0])), ((r12 0), .inl (cI, 402, .inl (fun _ => 0))), ((r12 1), .inl (cI, 402, .inl (fun _ => 0))), ((r12 2), .inr (7, [.ref (r12 3), .int 0])), ((r12 3), .inl (cI, 12000, .inl (fun _ => 0))), (q19, .inr (7, [.ref (r26 0), .int 0])), ((r26 0), .inl (cI, 4000, .inl (fun _ => 0))), (q33, .inr (6, [.ref (r37 0)])), ((r37 0), .inl (cJ, 9, .inr (.inl (fun _ => 0)))), (q47, .inl (cI, 4411, .inl (fun _ => 0))), (q56, .inl (cI, 400, .inl (fun _ => 0))), (q65, .inl (cI, 400, .inl (fun _ => 0)))]) F hin hK hP hD hS 0 5 rfl inW_X1 wm_216 tyX1_ok nmX1 rfl rfl rfl (by decide) rfl rfl (Nat.le_of_ble_eq_true rfl) rfl dX1_init_67 (fun H locs hP hD hS => ?_)
  have hP := hP.sub (ws' := [(a0, .inr (3, [.ref q5, .ref q19, .ref q33, .ref q47, .ref q56, .ref q65, .int 0, .int 0, .int 0])), (q5, .inr (2, [.ref (r12 2), .ref (r12 0), .ref (r12 1), .int 0])), ((r12 0), .inl (cI, 402, .inl (fun _ => 0))), ((r12 1), .inl (cI, 402, .inl (fun _ => 0))), ((r12 2), .inr (7, [.ref (r12 3), .int 0])), ((r12 3), .inl (cI, 12000, .inl (fun _ => 0))), (q19, .inr (7, [.ref (r26 0), .int 0])), ((r26 0), .inl (cI, 4000, .inl (fun _ => 0))), (q33, .inr (6, [.ref (r37 0)])), ((r37 0), .inl (cJ, 9, .inr (.inl (fun _ => 0)))), (q47, .inl (cI, 4411, .inl (fun _ => 0))), (q56, .inl (cI, 400, .inl (fun _ => 0))), (q65, .inl (cI, 400, .inl (fun _ => 0)))]) [0, 1, 2, 3, 4, 5, 6, 7, 8, 9, 10, 11, 12] rfl
  have hD := hD.sub (ws' := [(a0, .inr (3, [.ref q5, .ref q19, .ref q33, .ref q47, .ref q56, .ref q65, .int 0, .int 0, .int 0])), (q5, .inr (2, [.ref (r12 2), .ref (r12 0), .ref (r12 1), .int 0])), ((r12 0), .inl (cI, 402, .inl (fun _ => 0))), ((r12 1), .inl (cI, 402, .inl (fun _ => 0))), ((r12 2), .inr (7, [.ref (r12 3), .int 0])), ((r12 3), .inl (cI, 12000, .inl (fun _ => 0))), (q19, .inr (7, [.ref (r26 0), .int 0])), ((r26 0), .inl (cI, 4000, .inl (fun _ => 0))), (q33, .inr (6, [.ref (r37 0)])), ((r37 0), .inl (cJ, 9, .inr (.inl (fun _ => 0)))), (q47, .inl (cI, 4411, .inl (fun _ => 0))), (q56, .inl (cI, 400, .inl (fun _ => 0))), (q65, .inl (cI, 400, .inl (fun _ => 0)))]) [0, 1, 2, 3, 4, 5, 6, 7, 8, 9, 10, 11, 12] (by decide) rfl
  exact r_aret F hr hlk dX1_init_70 (fun i => ([q5, (r12 0), (r12 1), (r12 2), (r12 3), q19, (r26 0), q33, (r37 0), q47, q56, q65] : List Nat).getD i 0) hP hD hS
