theorem pdq_8 : (parseMethodDescriptor "()I").map (fun d => d.parameters.length) = some 0 := by decide +kernel
theorem ncq_3 : "LinearTruths$Bench" ≠ "java/lang/invoke/MethodHandle" ∧ "LinearTruths$Bench" ≠ "java/lang/invoke/VarHandle" := by decide +kernel
theorem pdq_9 : (parseMethodDescriptor "(I)V").map (fun d => d.parameters.length) = some 1 := by decide +kernel
theorem pdq_10 : (parseMethodDescriptor "(I)I").map (fun d => d.parameters.length) = some 1 := by decide +kernel
theorem pdq_11 : (parseMethodDescriptor "(II)V").map (fun d => d.parameters.length) = some 2 := by decide +kernel
theorem pdq_12 : (parseMethodDescriptor "(II)I").map (fun d => d.parameters.length) = some 2 := by decide +kernel
theorem pdq_13 : (parseMethodDescriptor "(II)Z").map (fun d => d.parameters.length) = some 2 := by decide +kernel
theorem inW_X0 : ∀ w ∈ u_ws RX0 TX0 4, w ∈ W0 := q_ls [(1, 74), (1, 76), (1, 78), (1, 80)] (by decide +kernel) (by decide +kernel)
theorem wm_138 : (Cond.fieldLink "LinearTruths$Bench" 23 "LinearTruths$Bench" "tree" "LLinearTruths$Tree;") ∈ W0 := q_l 1 68 (by decide +kernel) (by decide +kernel)
theorem wm_141 : (Cond.fieldLink "LinearTruths$Bench" 11 "LinearTruths$Bench" "starts" "[I") ∈ W0 := q_l 1 71 (by decide +kernel) (by decide +kernel)
theorem wm_142 : (Cond.fieldLink "LinearTruths$Bench" 15 "LinearTruths$Bench" "looses" "[I") ∈ W0 := q_l 1 72 (by decide +kernel) (by decide +kernel)
theorem wm_143 : (Cond.fieldLink "LinearTruths$Bench" 30 "LinearTruths$Bench" "parts" "I") ∈ W0 := q_l 1 73 (by decide +kernel) (by decide +kernel)
theorem wm_630 : (Cond.methodLink "LinearTruths$Bench" 27 yX5_cut) ∈ W0 := q_l 3 80 (by decide +kernel) (by decide +kernel)
theorem wm_665 : (Cond.methodLink "LinearTruths$Bench" 34 yX0_open) ∈ W0 := q_l 3 115 (by decide +kernel) (by decide +kernel)
theorem wm_669 : (Cond.methodLink "LinearTruths$Bench" 37 yX5_add) ∈ W0 := q_l 3 119 (by decide +kernel) (by decide +kernel)
theorem wm_733 : (Cond.methodLink "LinearTruths$Bench" 48 yX4_bits) ∈ W0 := q_l 3 183 (by decide +kernel) (by decide +kernel)
theorem wm_737 : (Cond.methodLink "LinearTruths$Bench" 61 yX5_setNumber) ∈ W0 := q_l 3 187 (by decide +kernel) (by decide +kernel)
theorem wm_760 : (Cond.methodLink "LinearTruths$Bench" 65 yX5_kind) ∈ W0 := q_l 3 210 (by decide +kernel) (by decide +kernel)
theorem wm_764 : (Cond.methodLink "LinearTruths$Bench" 69 yX0_lastKind) ∈ W0 := q_l 3 214 (by decide +kernel) (by decide +kernel)
theorem wm_768 : (Cond.methodLink "LinearTruths$Bench" 72 yX5_repeats) ∈ W0 := q_l 3 218 (by decide +kernel) (by decide +kernel)
theorem wm_772 : (Cond.methodLink "LinearTruths$Bench" 76 yX5_slide) ∈ W0 := q_l 3 222 (by decide +kernel) (by decide +kernel)
theorem wm_781 : (Cond.methodLink "LinearTruths$Bench" 80 yX5_negate) ∈ W0 := q_l 3 231 (by decide +kernel) (by decide +kernel)
theorem wm_849 : (Cond.methodLink "LinearTruths$Bench" 40 yX5_number) ∈ W0 := q_l 4 59 (by decide +kernel) (by decide +kernel)
theorem wm_853 : (Cond.methodLink "LinearTruths$Bench" 44 yX5_append) ∈ W0 := q_l 4 63 (by decide +kernel) (by decide +kernel)
theorem wm_866 : (Cond.methodLink "LinearTruths$Bench" 83 yX5_become) ∈ W0 := q_l 4 76 (by decide +kernel) (by decide +kernel)
theorem nf_X0_54 : (RX0, 54, "LinearTruths$Tree", "rows", "I", "LinearTruths") ∈ NF := by decide +kernel
theorem nf_X0_57 : (RX0, 57, "LinearTruths$Sum", "numbers", "[J", "LinearTruths") ∈ NF := by decide +kernel
theorem cv_X0_lastKind : Cv RX0 yX0_lastKind cX0_lastKind 1 (some .int) 0 := ⟨q_l 3 215 (by decide +kernel) (by decide +kernel), q_l 3 216 (by decide +kernel) (by decide +kernel), q_l 1 3 (by decide +kernel) (by decide +kernel), q_l 3 217 rfl (by decide +kernel), ⟨rfl, ncq_3.1, ncq_3.2, pdq_8⟩⟩
theorem cv_X0_open : Cv RX0 yX0_open cX0_open 2 none 1 := ⟨q_l 3 117 (by decide +kernel) (by decide +kernel), q_l 0 7 (by decide +kernel) (by decide +kernel), q_l 1 3 (by decide +kernel) (by decide +kernel), q_l 3 118 rfl (by decide +kernel), ⟨rfl, ncq_3.1, ncq_3.2, pdq_9⟩⟩
theorem cv_X4_bits : Cv RX4 yX4_bits cX4_bits 3 (some .int) 0 := ⟨q_l 3 184 (by decide +kernel) (by decide +kernel), q_l 3 185 (by decide +kernel) (by decide +kernel), q_l 1 6 (by decide +kernel) (by decide +kernel), q_l 3 186 rfl (by decide +kernel), ⟨rfl, ncq_1.1, ncq_1.2, pdq_8⟩⟩
theorem cv_X5_add : Cv RX5 yX5_add cX5_add 3 none 1 := ⟨q_l 1 200 (by decide +kernel) (by decide +kernel), q_l 1 201 (by decide +kernel) (by decide +kernel), q_l 1 4 (by decide +kernel) (by decide +kernel), q_l 1 202 rfl (by decide +kernel), ⟨rfl, ncq_2.1, ncq_2.2, pdq_9⟩⟩
theorem cv_X5_become : Cv RX5 yX5_become cX5_become 4 none 3 := ⟨q_l 4 18 (by decide +kernel) (by decide +kernel), q_l 4 19 (by decide +kernel) (by decide +kernel), q_l 1 4 (by decide +kernel) (by decide +kernel), q_l 4 20 rfl (by decide +kernel), ⟨rfl, ncq_2.1, ncq_2.2, pdq_6⟩⟩
theorem cv_X5_cut : Cv RX5 yX5_cut cX5_cut 2 none 1 := ⟨q_l 3 81 (by decide +kernel) (by decide +kernel), q_l 3 82 (by decide +kernel) (by decide +kernel), q_l 1 4 (by decide +kernel) (by decide +kernel), q_l 3 83 rfl (by decide +kernel), ⟨rfl, ncq_2.1, ncq_2.2, pdq_9⟩⟩
theorem cv_X5_kind : Cv RX5 yX5_kind cX5_kind 2 (some .int) 1 := ⟨q_l 3 211 (by decide +kernel) (by decide +kernel), q_l 3 212 (by decide +kernel) (by decide +kernel), q_l 1 4 (by decide +kernel) (by decide +kernel), q_l 3 213 rfl (by decide +kernel), ⟨rfl, ncq_2.1, ncq_2.2, pdq_10⟩⟩
theorem cv_X5_negate : Cv RX5 yX5_negate cX5_negate 8 none 2 := ⟨q_l 3 232 (by decide +kernel) (by decide +kernel), q_l 3 233 (by decide +kernel) (by decide +kernel), q_l 1 4 (by decide +kernel) (by decide +kernel), q_l 3 234 rfl (by decide +kernel), ⟨rfl, ncq_2.1, ncq_2.2, pdq_11⟩⟩
theorem cv_X5_number : Cv RX5 yX5_number cX5_number 3 (some .int) 2 := ⟨q_l 4 60 (by decide +kernel) (by decide +kernel), q_l 4 61 (by decide +kernel) (by decide +kernel), q_l 1 4 (by decide +kernel) (by decide +kernel), q_l 4 62 rfl (by decide +kernel), ⟨rfl, ncq_2.1, ncq_2.2, pdq_12⟩⟩
theorem cv_X5_repeats : Cv RX5 yX5_repeats cX5_repeats 5 (some .boolean) 2 := ⟨q_l 3 219 (by decide +kernel) (by decide +kernel), q_l 3 220 (by decide +kernel) (by decide +kernel), q_l 1 4 (by decide +kernel) (by decide +kernel), q_l 3 221 rfl (by decide +kernel), ⟨rfl, ncq_2.1, ncq_2.2, pdq_13⟩⟩
theorem cv_X5_setNumber : Cv RX5 yX5_setNumber cX5_setNumber 4 none 3 := ⟨q_l 3 188 (by decide +kernel) (by decide +kernel), q_l 3 189 (by decide +kernel) (by decide +kernel), q_l 1 4 (by decide +kernel) (by decide +kernel), q_l 3 190 rfl (by decide +kernel), ⟨rfl, ncq_2.1, ncq_2.2, pdq_2⟩⟩
theorem cv_X5_slide : Cv RX5 yX5_slide cX5_slide 3 none 2 := ⟨q_l 3 223 (by decide +kernel) (by decide +kernel), q_l 3 224 (by decide +kernel) (by decide +kernel), q_l 1 4 (by decide +kernel) (by decide +kernel), q_l 3 225 rfl (by decide +kernel), ⟨rfl, ncq_2.1, ncq_2.2, pdq_11⟩⟩
section G_X0_begin
abbrev ws_X0_begin (cI cJ cB : ClassId) (a0 a_starts a_looses a_tree a_tree_cells : Nat) (parts : Int32) (tree_rows : Int32) : va_W := [(a0, .inr (2, [.ref a_tree, .ref a_starts, .ref a_looses, .int parts])), (a_tree, .inr (7, [.ref a_tree_cells, .int tree_rows]))]
abbrev rm_X0_begin : Room := { frames := 1, cells := 0, slots := 0, locals := 21 }
def f_X0_begin (N : Nat) (parts : Int32) (tree_rows : Int32) : Option ((Int32) × (Int32)) := (f_X5_cut N tree_rows 0).bind (fun z5 => some (0, z5))
variable {p : Program} {l : Launch} {e : Env} {s : State} {m : MethodId} {below : List Frame} {meth : Method} {c : Code} {args : Array Value} {x0 : Cond} {D : va_G} {cI cJ cB : ClassId} {sz N : Nat} {ws0 : va_W} {a0 a_starts a_looses a_tree a_tree_cells : Nat} {z : (Int32) × (Int32)}
end G_X0_begin
set_option maxHeartbeats 4000000 in
set_option maxRecDepth 100000 in
theorem c_X0_begin (l : Launch) (D : va_G) (cI cJ cB : ClassId) (a0 a_starts a_looses a_tree a_tree_cells : Nat) (sz : Nat) (parts : Int32) (tree_rows : Int32) (N : Nat) {z : (Int32) × (Int32)} (h : f_X0_begin N parts tree_rows = some z) : Mg l yX0_begin cX0_begin 1 none rm_X0_begin D (ty0 cI cJ cB) [.ref a0] sz (ws_X0_begin cI cJ cB a0 a_starts a_looses a_tree a_tree_cells parts tree_rows) none (ws_X0_begin cI cJ cB a0 a_starts a_looses a_tree a_tree_cells z.1 z.2) := by
  refine Mg.of (by decide) (Nat.le_of_ble_eq_true rfl) ?_
  intro p e s m below meth c CX hK hsz hP hD ls hl
  have CX : Cx p m c cX0_begin 1 s ([.ref a0] : List Value).toArray (Cond.code yX0_begin cX0_begin 1 none) RX0 meth none := CX
  obtain ⟨F, hr, hlk, hNw⟩ := id CX
  have hx := F.1
  have hb := F.2.1
  have hown := F.2.2.2.1
  have hl : lv_has ls 1 [(0, .ref a0)] := hl
  have hS : va_S (va_A (ws_X0_begin cI cJ cB a0 a_starts a_looses a_tree a_tree_cells parts tree_rows) sz) s.heap s.heap [] := va_S.rf
  have hA : ∀ q, s.heap.size ≤ q → va_A (ws_X0_begin cI cJ cB a0 a_starts a_looses a_tree a_tree_cells parts tree_rows) sz q := fun q hq => Or.inr (hsz ▸ hq)
  unfold f_X0_begin at h
  refine lv_aload_n hx hb dX0_begin_0 rfl (lv_at hl 0 rfl) ?_
  refine r_get F hK hP 0 0 rfl inW_X0 wm_138 rfl (by decide) rfl dX0_begin_1 ?_
  refine lv_iconst (v := 0) hx hb dX0_begin_4 (by decide) ?_
  obtain ⟨z5, hz5, h⟩ := o_b h
  refine k_v (wn := (ws_X0_begin cI cJ cB a0 a_starts a_looses a_tree a_tree_cells parts z5)) (As := [.int 0]) (rest := []) F hNw hK hP hD hS hA (c_X5_cut l D cI cJ cB a_tree a_tree_cells _ tree_rows 0 N hz5) wm_630 cv_X5_cut [1] [0] [0, 1] (⟨rfl, rfl, rfl, by decide, rfl⟩ : Ix [1] [0] [0, 1] 2) rfl rfl rfl rfl rfl rfl ⟨rfl, rfl, by decide, by decide⟩ hl.1 rfl (Nat.le_of_ble_eq_true rfl) ⟨Nat.zero_le _, Nat.zero_le _⟩ dX0_begin_5 (fun H locs hP hD hS => ?_)
  refine lv_aload_n hx hb dX0_begin_8 rfl (lv_at hl 0 rfl) ?_
  refine lv_iconst (v := 0) hx hb dX0_begin_9 (by decide) ?_
  refine r_put (wn := (ws_X0_begin cI cJ cB a0 a_starts a_looses a_tree a_tree_cells 0 z5)) F hK hP hD hS 0 3 rfl inW_X0 wm_143 tyX0_ok nmX0 rfl rfl (by decide) rfl rfl (Nat.le_of_ble_eq_true rfl) rfl dX0_begin_10 (fun H locs hP hD hS => ?_)
  obtain rfl := Option.some.inj h
  exact r_vret F hr hlk dX0_begin_13 hsz hP hD hS
section G_X0_bind
abbrev ws_X0_bind (cI cJ cB : ClassId) (a0 a_starts a_tree a_tree_cells a_looses : Nat) (parts : Int32) (tree_rows : Int32) (tree_cells : Nat → Int32) (tree_cells_n : Nat) (looses : Nat → Int32) : va_W := [(a0, .inr (2, [.ref a_tree, .ref a_starts, .ref a_looses, .int parts])), (a_tree, .inr (7, [.ref a_tree_cells, .int tree_rows])), (a_tree_cells, .inl (cI, tree_cells_n, .inl tree_cells)), (a_looses, .inl (cI, 402, .inl looses))]
abbrev rm_X0_bind : Room := { frames := 3, cells := 0, slots := 0, locals := 68 }
def f_X0_bind_26 (N : Nat) (parts : Int32) (tree_rows : Int32) (tree_cells : Nat → Int32) (tree_cells_n : Nat) (looses : Nat → Int32) : Option ((Int32) × (Nat → Int32) × (Nat → Int32)) := some (tree_rows, tree_cells, looses)
def f_X0_bind (N : Nat) (parts : Int32) (tree_rows : Int32) (tree_cells : Nat → Int32) (tree_cells_n : Nat) (looses : Nat → Int32) (x1 : Int32) (x2 : Int32) : Option ((Int32) × (Nat → Int32) × (Nat → Int32)) := ifb (parts < 1) (f_X0_bind_26 N parts tree_rows tree_cells tree_cells_n looses) (ix (parts - 1) 402 (ifb ((((looses (parts - 1).toNatClampNeg) >>> (x2 &&& 31)) &&& 1) = 0) (f_X0_bind_26 N parts tree_rows tree_cells tree_cells_n looses) ((f_X5_add N tree_rows tree_cells tree_cells_n x1).bind (fun z32 => (f_X5_setNumber N z32.1 z32.2 tree_cells_n (z32.1 - 1) 0 x2).bind (fun z50 => ix (parts - 1) 402 (ix (parts - 1) 402 (some (z32.1, z50, upd looses (parts - 1).toNatClampNeg ((looses (parts - 1).toNatClampNeg) &&& ((1 <<< (x2 &&& 31)) ^^^ (-1)))))))))))
variable {p : Program} {l : Launch} {e : Env} {s : State} {m : MethodId} {below : List Frame} {meth : Method} {c : Code} {args : Array Value} {x0 : Cond} {D : va_G} {cI cJ cB : ClassId} {sz N : Nat} {ws0 : va_W} {a0 a_starts a_tree a_tree_cells a_looses : Nat} {parts : Int32} {tree_cells_n : Nat} {z : (Int32) × (Nat → Int32) × (Nat → Int32)}
set_option maxHeartbeats 4000000 in
set_option maxRecDepth 100000 in
theorem w_X0_bind_26 (CX : Cx p m c cX0_bind 3 s args x0 RX0 meth none) (hK : va_K D vwCl (ty0 cI cJ cB) s) (hsz : s.heap.size = sz) : ∀ (tree_rows : Int32) (tree_cells : Nat → Int32) (looses : Nat → Int32) (H : Heap) (locs : List Loc) (ls : Array Slot), f_X0_bind_26 N parts tree_rows tree_cells tree_cells_n looses = some z → va_P D vwCl (ws_X0_bind cI cJ cB a0 a_starts a_tree a_tree_cells a_looses parts tree_rows tree_cells tree_cells_n looses) H → va_D (va_A ws0 sz) (ws_X0_bind cI cJ cB a0 a_starts a_tree a_tree_cells a_looses parts tree_rows tree_cells tree_cells_n looses) → va_S (va_A ws0 sz) s.heap H locs → lv_has ls 3 [] → W p l e rm_X0_bind s m args below meth c H locs 0 0 (MQ below (gQ D sz ws0 (ws_X0_bind cI cJ cB a0 a_starts a_tree a_tree_cells a_looses parts z.1 z.2.1 tree_cells_n z.2.2) none) args s 0 0 (va_A ws0 sz)) (F0 m 26 ls []) := by
  obtain ⟨F, hr, hlk, hNw⟩ := id CX
  have hx := F.1
  have hb := F.2.1
  have hown := F.2.2.2.1
  have hA : ∀ q, s.heap.size ≤ q → va_A ws0 sz q := fun q hq => Or.inr (hsz ▸ hq)
  intro tree_rows tree_cells looses H locs ls h hP hD hS hl
  unfold f_X0_bind_26 at h
  obtain rfl := Option.some.inj h
  exact r_vret F hr hlk dX0_bind_26 hsz hP hD hS
end G_X0_bind
set_option maxHeartbeats 4000000 in
set_option maxRecDepth 100000 in
theorem c_X0_bind (l : Launch) (D : va_G) (cI cJ cB : ClassId) (a0 a_starts a_tree a_tree_cells a_looses : Nat) (sz : Nat) (parts : Int32) (tree_rows : Int32) (tree_cells : Nat → Int32) (tree_cells_n : Nat) (looses : Nat → Int32) (x1 : Int32) (x2 : Int32) (N : Nat) {z : (Int32) × (Nat → Int32) × (Nat → Int32)} (h : f_X0_bind N parts tree_rows tree_cells tree_cells_n looses x1 x2 = some z) : Mg l yX0_bind cX0_bind 3 none rm_X0_bind D (ty0 cI cJ cB) [.ref a0, .int x1, .int x2] sz (ws_X0_bind cI cJ cB a0 a_starts a_tree a_tree_cells a_looses parts tree_rows tree_cells tree_cells_n looses) none (ws_X0_bind cI cJ cB a0 a_starts a_tree a_tree_cells a_looses parts z.1 z.2.1 tree_cells_n z.2.2) := by
  refine Mg.of (by decide) (Nat.le_of_ble_eq_true rfl) ?_
  intro p e s m below meth c CX hK hsz hP hD ls hl
  have CX : Cx p m c cX0_bind 3 s ([.ref a0, .int x1, .int x2] : List Value).toArray (Cond.code yX0_bind cX0_bind 3 none) RX0 meth none := CX
  obtain ⟨F, hr, hlk, hNw⟩ := id CX
  have hx := F.1
  have hb := F.2.1
  have hown := F.2.2.2.1
  have hl : lv_has ls 3 [(0, .ref a0), (1, .int x1), (2, .int x2)] := hl
  have hS : va_S (va_A (ws_X0_bind cI cJ cB a0 a_starts a_tree a_tree_cells a_looses parts tree_rows tree_cells tree_cells_n looses) sz) s.heap s.heap [] := va_S.rf
  have hA : ∀ q, s.heap.size ≤ q → va_A (ws_X0_bind cI cJ cB a0 a_starts a_tree a_tree_cells a_looses parts tree_rows tree_cells tree_cells_n looses) sz q := fun q hq => Or.inr (hsz ▸ hq)
  unfold f_X0_bind at h
  refine lv_aload_n hx hb dX0_bind_0 rfl (lv_at hl 0 rfl) ?_
  refine r_get F hK hP 0 3 rfl inW_X0 wm_143 rfl (by decide) rfl dX0_bind_1 ?_
  refine lv_iconst (v := 1) hx hb dX0_bind_4 (by decide) ?_
  refine lv_icmp_lt (tgt := 26) hx hb dX0_bind_5 (by decide) (fun c5 => ?_) (fun c5 => ?_)
  · have h := o_t c5 h
    exact w_X0_bind_26 CX hK hsz tree_rows tree_cells looses _ _ _ h hP hD hS (lv_sub hl [] rfl)
  · have h := o_f c5 h
    refine lv_aload_n hx hb dX0_bind_8 rfl (lv_at hl 0 rfl) ?_
    refine r_get F hK hP 0 2 rfl inW_X0 wm_142 rfl (by decide) rfl dX0_bind_9 ?_
    refine lv_aload_n hx hb dX0_bind_12 rfl (lv_at hl 0 rfl) ?_
    refine r_get F hK hP 0 3 rfl inW_X0 wm_143 rfl (by decide) rfl dX0_bind_13 ?_
    refine lv_iconst (v := 1) hx hb dX0_bind_16 (by decide) ?_
    refine lv_isub hx hb dX0_bind_17 ?_
    obtain ⟨hi18, h⟩ := o_ix h
    refine va_iald hx hb hK hP 3 0 rfl rfl hi18 dX0_bind_18 ?_
    refine lv_iload_n hx hb dX0_bind_19 rfl (lv_at hl 2 rfl) ?_
    refine lv_ishr hx hb dX0_bind_20 ?_
    refine lv_iconst (v := 1) hx hb dX0_bind_21 (by decide) ?_
    refine lv_iand hx hb dX0_bind_22 ?_
    refine lv_if_ne (tgt := 27) hx hb dX0_bind_23 (by decide) (fun c23 => ?_) (fun c23 => ?_)
    · have h := o_f c23 h
      refine lv_aload_n hx hb dX0_bind_27 rfl (lv_at hl 0 rfl) ?_
      refine r_get F hK hP 0 0 rfl inW_X0 wm_138 rfl (by decide) rfl dX0_bind_28 ?_
      refine lv_iload_n hx hb dX0_bind_31 rfl (lv_at hl 1 rfl) ?_
      obtain ⟨z32, hz32, h⟩ := o_b h
      refine k_v (wn := (ws_X0_bind cI cJ cB a0 a_starts a_tree a_tree_cells a_looses parts z32.1 z32.2 tree_cells_n looses)) (As := [.int x1]) (rest := []) F hNw hK hP hD hS hA (c_X5_add l D cI cJ cB a_tree a_tree_cells _ tree_rows tree_cells tree_cells_n x1 N hz32) wm_669 cv_X5_add [1, 2] [0, 3] [0, 2, 3, 1] (⟨rfl, rfl, rfl, by decide, rfl⟩ : Ix [1, 2] [0, 3] [0, 2, 3, 1] 4) rfl rfl rfl rfl rfl rfl ⟨rfl, rfl, by decide, by decide⟩ hl.1 rfl (Nat.le_of_ble_eq_true rfl) ⟨Nat.zero_le _, Nat.zero_le _⟩ dX0_bind_32 (fun H locs hP hD hS => ?_)
      refine lv_aload_n hx hb dX0_bind_35 rfl (lv_at hl 0 rfl) ?_
      refine r_get F hK hP 0 0 rfl inW_X0 wm_138 rfl (by decide) rfl dX0_bind_36 ?_
      refine lv_aload_n hx hb dX0_bind_39 rfl (lv_at hl 0 rfl) ?_
      refine r_get F hK hP 0 0 rfl inW_X0 wm_138 rfl (by decide) rfl dX0_bind_40 ?_
      refine r_getN F hNw hK hP 1 1 rfl inW_X5 nf_X0_54 rfl (by decide) rfl dX0_bind_43 ?_
      refine lv_iconst (v := 1) hx hb dX0_bind_46 (by decide) ?_
      refine lv_isub hx hb dX0_bind_47 ?_
      refine lv_iconst (v := 0) hx hb dX0_bind_48 (by decide) ?_
      refine lv_iload_n hx hb dX0_bind_49 rfl (lv_at hl 2 rfl) ?_
      obtain ⟨z50, hz50, h⟩ := o_b h
      refine k_v (wn := (ws_X0_bind cI cJ cB a0 a_starts a_tree a_tree_cells a_looses parts z32.1 z50 tree_cells_n looses)) (As := [.int (z32.1 - 1), .int 0, .int x2]) (rest := []) F hNw hK hP hD hS hA (c_X5_setNumber l D cI cJ cB a_tree a_tree_cells _ z32.1 z32.2 tree_cells_n (z32.1 - 1) 0 x2 N hz50) wm_737 cv_X5_setNumber [1, 2] [0, 3] [0, 2, 3, 1] (⟨rfl, rfl, rfl, by decide, rfl⟩ : Ix [1, 2] [0, 3] [0, 2, 3, 1] 4) rfl rfl rfl rfl rfl rfl ⟨rfl, rfl, by decide, by decide⟩ hl.1 rfl (Nat.le_of_ble_eq_true rfl) ⟨Nat.zero_le _, Nat.zero_le _⟩ dX0_bind_50 (fun H locs hP hD hS => ?_)
      refine lv_aload_n hx hb dX0_bind_53 rfl (lv_at hl 0 rfl) ?_
      refine r_get F hK hP 0 2 rfl inW_X0 wm_142 rfl (by decide) rfl dX0_bind_54 ?_
      refine lv_aload_n hx hb dX0_bind_57 rfl (lv_at hl 0 rfl) ?_
      refine r_get F hK hP 0 3 rfl inW_X0 wm_143 rfl (by decide) rfl dX0_bind_58 ?_
      refine lv_iconst (v := 1) hx hb dX0_bind_61 (by decide) ?_
      refine lv_isub hx hb dX0_bind_62 ?_
      refine lv_dup2_11 hx hb dX0_bind_63 rfl rfl ?_
      obtain ⟨hi64, h⟩ := o_ix h
      refine va_iald hx hb hK hP 3 0 rfl rfl hi64 dX0_bind_64 ?_
      refine lv_iconst (v := 1) hx hb dX0_bind_65 (by decide) ?_
      refine lv_iload_n hx hb dX0_bind_66 rfl (lv_at hl 2 rfl) ?_
      refine lv_ishl hx hb dX0_bind_67 ?_
      refine lv_iconst (v := (-1)) hx hb dX0_bind_68 (by decide) ?_
      refine lv_ixor hx hb dX0_bind_69 ?_
      refine lv_iand hx hb dX0_bind_70 ?_
      obtain ⟨hi71, h⟩ := o_ix h
      refine r_iast (wn := (ws_X0_bind cI cJ cB a0 a_starts a_tree a_tree_cells a_looses parts z32.1 z50 tree_cells_n (upd looses (parts - 1).toNatClampNeg ((looses (parts - 1).toNatClampNeg) &&& ((1 <<< (x2 &&& 31)) ^^^ (-1)))))) F hK hP hD hS 3 0 hi71 rfl rfl rfl dX0_bind_71 (fun H locs hP hD hS => ?_)
      obtain rfl := Option.some.inj h
      exact r_vret F hr hlk dX0_bind_72 hsz hP hD hS
    · have h := o_t c23 h
      exact w_X0_bind_26 CX hK hsz tree_rows tree_cells looses _ _ _ h hP hD hS (lv_sub hl [] rfl)
section G_X0_negateLast
abbrev ws_X0_negateLast (cI cJ cB : ClassId) (a0 a_looses a_tree a_tree_cells a_starts : Nat) (parts : Int32) (tree_rows : Int32) (tree_cells : Nat → Int32) (tree_cells_n : Nat) (starts : Nat → Int32) : va_W := [(a0, .inr (2, [.ref a_tree, .ref a_starts, .ref a_looses, .int parts])), (a_tree, .inr (7, [.ref a_tree_cells, .int tree_rows])), (a_tree_cells, .inl (cI, tree_cells_n, .inl tree_cells)), (a_starts, .inl (cI, 402, .inl starts))]
abbrev rm_X0_negateLast : Room := { frames := 2, cells := 0, slots := 0, locals := 50 }
def f_X0_negateLast_32 (N : Nat) (parts : Int32) (tree_rows : Int32) (tree_cells : Nat → Int32) (tree_cells_n : Nat) (starts : Nat → Int32) : Option ((Nat → Int32)) := some tree_cells
def f_X0_negateLast (N : Nat) (parts : Int32) (tree_rows : Int32) (tree_cells : Nat → Int32) (tree_cells_n : Nat) (starts : Nat → Int32) : Option ((Nat → Int32)) := ifb (parts ≤ 0) (f_X0_negateLast_32 N parts tree_rows tree_cells tree_cells_n starts) (ix (parts - 1) 402 ((f_X5_negate N tree_rows tree_cells tree_cells_n (starts (parts - 1).toNatClampNeg) tree_rows).bind (fun z29 => f_X0_negateLast_32 N parts tree_rows z29 tree_cells_n starts)))
variable {p : Program} {l : Launch} {e : Env} {s : State} {m : MethodId} {below : List Frame} {meth : Method} {c : Code} {args : Array Value} {x0 : Cond} {D : va_G} {cI cJ cB : ClassId} {sz N : Nat} {ws0 : va_W} {a0 a_looses a_tree a_tree_cells a_starts : Nat} {parts : Int32} {tree_rows : Int32} {tree_cells_n : Nat} {starts : Nat → Int32} {z : (Nat → Int32)}
set_option maxHeartbeats 4000000 in
set_option maxRecDepth 100000 in
theorem w_X0_negateLast_32 (CX : Cx p m c cX0_negateLast 1 s args x0 RX0 meth none) (hK : va_K D vwCl (ty0 cI cJ cB) s) (hsz : s.heap.size = sz) : ∀ (tree_cells : Nat → Int32) (H : Heap) (locs : List Loc) (ls : Array Slot), f_X0_negateLast_32 N parts tree_rows tree_cells tree_cells_n starts = some z → va_P D vwCl (ws_X0_negateLast cI cJ cB a0 a_looses a_tree a_tree_cells a_starts parts tree_rows tree_cells tree_cells_n starts) H → va_D (va_A ws0 sz) (ws_X0_negateLast cI cJ cB a0 a_looses a_tree a_tree_cells a_starts parts tree_rows tree_cells tree_cells_n starts) → va_S (va_A ws0 sz) s.heap H locs → lv_has ls 1 [] → W p l e rm_X0_negateLast s m args below meth c H locs 0 0 (MQ below (gQ D sz ws0 (ws_X0_negateLast cI cJ cB a0 a_looses a_tree a_tree_cells a_starts parts tree_rows z tree_cells_n starts) none) args s 0 0 (va_A ws0 sz)) (F0 m 32 ls []) := by
  obtain ⟨F, hr, hlk, hNw⟩ := id CX
  have hx := F.1
  have hb := F.2.1
  have hown := F.2.2.2.1
  have hA : ∀ q, s.heap.size ≤ q → va_A ws0 sz q := fun q hq => Or.inr (hsz ▸ hq)
  intro tree_cells H locs ls h hP hD hS hl
  unfold f_X0_negateLast_32 at h
  obtain rfl := Option.some.inj h
  exact r_vret F hr hlk dX0_negateLast_32 hsz hP hD hS
end G_X0_negateLast
set_option maxHeartbeats 4000000 in
set_option maxRecDepth 100000 in
theorem c_X0_negateLast (l : Launch) (D : va_G) (cI cJ cB : ClassId) (a0 a_looses a_tree a_tree_cells a_starts : Nat) (sz : Nat) (parts : Int32) (tree_rows : Int32) (tree_cells : Nat → Int32) (tree_cells_n : Nat) (starts : Nat → Int32) (N : Nat) {z : (Nat → Int32)} (h : f_X0_negateLast N parts tree_rows tree_cells tree_cells_n starts = some z) : Mg l yX0_negateLast cX0_negateLast 1 none rm_X0_negateLast D (ty0 cI cJ cB) [.ref a0] sz (ws_X0_negateLast cI cJ cB a0 a_looses a_tree a_tree_cells a_starts parts tree_rows tree_cells tree_cells_n starts) none (ws_X0_negateLast cI cJ cB a0 a_looses a_tree a_tree_cells a_starts parts tree_rows z tree_cells_n starts) := by
  refine Mg.of (by decide) (Nat.le_of_ble_eq_true rfl) ?_
  intro p e s m below meth c CX hK hsz hP hD ls hl
  have CX : Cx p m c cX0_negateLast 1 s ([.ref a0] : List Value).toArray (Cond.code yX0_negateLast cX0_negateLast 1 none) RX0 meth none := CX
  obtain ⟨F, hr, hlk, hNw⟩ := id CX
  have hx := F.1
  have hb := F.2.1
  have hown := F.2.2.2.1
  have hl : lv_has ls 1 [(0, .ref a0)] := hl
  have hS : va_S (va_A (ws_X0_negateLast cI cJ cB a0 a_looses a_tree a_tree_cells a_starts parts tree_rows tree_cells tree_cells_n starts) sz) s.heap s.heap [] := va_S.rf
  have hA : ∀ q, s.heap.size ≤ q → va_A (ws_X0_negateLast cI cJ cB a0 a_looses a_tree a_tree_cells a_starts parts tree_rows tree_cells tree_cells_n starts) sz q := fun q hq => Or.inr (hsz ▸ hq)
  unfold f_X0_negateLast at h
  refine lv_aload_n hx hb dX0_negateLast_0 rfl (lv_at hl 0 rfl) ?_
  refine r_get F hK hP 0 3 rfl inW_X0 wm_143 rfl (by decide) rfl dX0_negateLast_1 ?_
  refine lv_if_le (tgt := 32) hx hb dX0_negateLast_4 (by decide) (fun c4 => ?_) (fun c4 => ?_)
  · have h := o_t c4 h
    exact w_X0_negateLast_32 CX hK hsz tree_cells _ _ _ h hP hD hS (lv_sub hl [] rfl)
  · have h := o_f c4 h
    refine lv_aload_n hx hb dX0_negateLast_7 rfl (lv_at hl 0 rfl) ?_
    refine r_get F hK hP 0 0 rfl inW_X0 wm_138 rfl (by decide) rfl dX0_negateLast_8 ?_
    refine lv_aload_n hx hb dX0_negateLast_11 rfl (lv_at hl 0 rfl) ?_
    refine r_get F hK hP 0 1 rfl inW_X0 wm_141 rfl (by decide) rfl dX0_negateLast_12 ?_
    refine lv_aload_n hx hb dX0_negateLast_15 rfl (lv_at hl 0 rfl) ?_
    refine r_get F hK hP 0 3 rfl inW_X0 wm_143 rfl (by decide) rfl dX0_negateLast_16 ?_
    refine lv_iconst (v := 1) hx hb dX0_negateLast_19 (by decide) ?_
    refine lv_isub hx hb dX0_negateLast_20 ?_
    obtain ⟨hi21, h⟩ := o_ix h
    refine va_iald hx hb hK hP 3 0 rfl rfl hi21 dX0_negateLast_21 ?_
    refine lv_aload_n hx hb dX0_negateLast_22 rfl (lv_at hl 0 rfl) ?_
    refine r_get F hK hP 0 0 rfl inW_X0 wm_138 rfl (by decide) rfl dX0_negateLast_23 ?_
    refine r_getN F hNw hK hP 1 1 rfl inW_X5 nf_X0_54 rfl (by decide) rfl dX0_negateLast_26 ?_
    obtain ⟨z29, hz29, h⟩ := o_b h
    refine k_v (wn := (ws_X0_negateLast cI cJ cB a0 a_looses a_tree a_tree_cells a_starts parts tree_rows z29 tree_cells_n starts)) (As := [.int (starts (parts - 1).toNatClampNeg), .int tree_rows]) (rest := []) F hNw hK hP hD hS hA (c_X5_negate l D cI cJ cB a_tree a_tree_cells _ tree_rows tree_cells tree_cells_n (starts (parts - 1).toNatClampNeg) tree_rows N hz29) wm_781 cv_X5_negate [1, 2] [0, 3] [0, 2, 3, 1] (⟨rfl, rfl, rfl, by decide, rfl⟩ : Ix [1, 2] [0, 3] [0, 2, 3, 1] 4) rfl rfl rfl rfl rfl rfl ⟨rfl, rfl, by decide, by decide⟩ hl.1 rfl (Nat.le_of_ble_eq_true rfl) ⟨Nat.zero_le _, Nat.zero_le _⟩ dX0_negateLast_29 (fun H locs hP hD hS => ?_)
    exact w_X0_negateLast_32 CX hK hsz z29 _ _ _ h hP hD hS (lv_sub hl [] rfl)
section G_X0_negateLastButOne
abbrev ws_X0_negateLastButOne (cI cJ cB : ClassId) (a0 a_looses a_tree a_tree_cells a_starts : Nat) (parts : Int32) (tree_rows : Int32) (tree_cells : Nat → Int32) (tree_cells_n : Nat) (starts : Nat → Int32) : va_W := [(a0, .inr (2, [.ref a_tree, .ref a_starts, .ref a_looses, .int parts])), (a_tree, .inr (7, [.ref a_tree_cells, .int tree_rows])), (a_tree_cells, .inl (cI, tree_cells_n, .inl tree_cells)), (a_starts, .inl (cI, 402, .inl starts))]
abbrev rm_X0_negateLastButOne : Room := { frames := 2, cells := 0, slots := 0, locals := 50 }
def f_X0_negateLastButOne_37 (N : Nat) (parts : Int32) (tree_rows : Int32) (tree_cells : Nat → Int32) (tree_cells_n : Nat) (starts : Nat → Int32) : Option ((Nat → Int32)) := some tree_cells
def f_X0_negateLastButOne (N : Nat) (parts : Int32) (tree_rows : Int32) (tree_cells : Nat → Int32) (tree_cells_n : Nat) (starts : Nat → Int32) : Option ((Nat → Int32)) := ifb (parts ≤ 1) (f_X0_negateLastButOne_37 N parts tree_rows tree_cells tree_cells_n starts) (ix (parts - 2) 402 (ix (parts - 1) 402 ((f_X5_negate N tree_rows tree_cells tree_cells_n (starts (parts - 2).toNatClampNeg) (starts (parts - 1).toNatClampNeg)).bind (fun z34 => f_X0_negateLastButOne_37 N parts tree_rows z34 tree_cells_n starts))))
variable {p : Program} {l : Launch} {e : Env} {s : State} {m : MethodId} {below : List Frame} {meth : Method} {c : Code} {args : Array Value} {x0 : Cond} {D : va_G} {cI cJ cB : ClassId} {sz N : Nat} {ws0 : va_W} {a0 a_looses a_tree a_tree_cells a_starts : Nat} {parts : Int32} {tree_rows : Int32} {tree_cells_n : Nat} {starts : Nat → Int32} {z : (Nat → Int32)}
set_option maxHeartbeats 4000000 in
set_option maxRecDepth 100000 in
theorem w_X0_negateLastButOne_37 (CX : Cx p m c cX0_negateLastButOne 1 s args x0 RX0 meth none) (hK : va_K D vwCl (ty0 cI cJ cB) s) (hsz : s.heap.size = sz) : ∀ (tree_cells : Nat → Int32) (H : Heap) (locs : List Loc) (ls : Array Slot), f_X0_negateLastButOne_37 N parts tree_rows tree_cells tree_cells_n starts = some z → va_P D vwCl (ws_X0_negateLastButOne cI cJ cB a0 a_looses a_tree a_tree_cells a_starts parts tree_rows tree_cells tree_cells_n starts) H → va_D (va_A ws0 sz) (ws_X0_negateLastButOne cI cJ cB a0 a_looses a_tree a_tree_cells a_starts parts tree_rows tree_cells tree_cells_n starts) → va_S (va_A ws0 sz) s.heap H locs → lv_has ls 1 [] → W p l e rm_X0_negateLastButOne s m args below meth c H locs 0 0 (MQ below (gQ D sz ws0 (ws_X0_negateLastButOne cI cJ cB a0 a_looses a_tree a_tree_cells a_starts parts tree_rows z tree_cells_n starts) none) args s 0 0 (va_A ws0 sz)) (F0 m 37 ls []) := by
  obtain ⟨F, hr, hlk, hNw⟩ := id CX
  have hx := F.1
  have hb := F.2.1
  have hown := F.2.2.2.1
  have hA : ∀ q, s.heap.size ≤ q → va_A ws0 sz q := fun q hq => Or.inr (hsz ▸ hq)
  intro tree_cells H locs ls h hP hD hS hl
  unfold f_X0_negateLastButOne_37 at h
  obtain rfl := Option.some.inj h
  exact r_vret F hr hlk dX0_negateLastButOne_37 hsz hP hD hS
end G_X0_negateLastButOne
set_option maxHeartbeats 4000000 in
set_option maxRecDepth 100000 in
theorem c_X0_negateLastButOne (l : Launch) (D : va_G) (cI cJ cB : ClassId) (a0 a_looses a_tree a_tree_cells a_starts : Nat) (sz : Nat) (parts : Int32) (tree_rows : Int32) (tree_cells : Nat → Int32) (tree_cells_n : Nat) (starts : Nat → Int32) (N : Nat) {z : (Nat → Int32)} (h : f_X0_negateLastButOne N parts tree_rows tree_cells tree_cells_n starts = some z) : Mg l yX0_negateLastButOne cX0_negateLastButOne 1 none rm_X0_negateLastButOne D (ty0 cI cJ cB) [.ref a0] sz (ws_X0_negateLastButOne cI cJ cB a0 a_looses a_tree a_tree_cells a_starts parts tree_rows tree_cells tree_cells_n starts) none (ws_X0_negateLastButOne cI cJ cB a0 a_looses a_tree a_tree_cells a_starts parts tree_rows z tree_cells_n starts) := by
  refine Mg.of (by decide) (Nat.le_of_ble_eq_true rfl) ?_
  intro p e s m below meth c CX hK hsz hP hD ls hl
  have CX : Cx p m c cX0_negateLastButOne 1 s ([.ref a0] : List Value).toArray (Cond.code yX0_negateLastButOne cX0_negateLastButOne 1 none) RX0 meth none := CX
  obtain ⟨F, hr, hlk, hNw⟩ := id CX
  have hx := F.1
  have hb := F.2.1
  have hown := F.2.2.2.1
  have hl : lv_has ls 1 [(0, .ref a0)] := hl
  have hS : va_S (va_A (ws_X0_negateLastButOne cI cJ cB a0 a_looses a_tree a_tree_cells a_starts parts tree_rows tree_cells tree_cells_n starts) sz) s.heap s.heap [] := va_S.rf
  have hA : ∀ q, s.heap.size ≤ q → va_A (ws_X0_negateLastButOne cI cJ cB a0 a_looses a_tree a_tree_cells a_starts parts tree_rows tree_cells tree_cells_n starts) sz q := fun q hq => Or.inr (hsz ▸ hq)
  unfold f_X0_negateLastButOne at h
  refine lv_aload_n hx hb dX0_negateLastButOne_0 rfl (lv_at hl 0 rfl) ?_
  refine r_get F hK hP 0 3 rfl inW_X0 wm_143 rfl (by decide) rfl dX0_negateLastButOne_1 ?_
  refine lv_iconst (v := 1) hx hb dX0_negateLastButOne_4 (by decide) ?_
  refine lv_icmp_le (tgt := 37) hx hb dX0_negateLastButOne_5 (by decide) (fun c5 => ?_) (fun c5 => ?_)
  · have h := o_t c5 h
    exact w_X0_negateLastButOne_37 CX hK hsz tree_cells _ _ _ h hP hD hS (lv_sub hl [] rfl)
  · have h := o_f c5 h
    refine lv_aload_n hx hb dX0_negateLastButOne_8 rfl (lv_at hl 0 rfl) ?_
    refine r_get F hK hP 0 0 rfl inW_X0 wm_138 rfl (by decide) rfl dX0_negateLastButOne_9 ?_
    refine lv_aload_n hx hb dX0_negateLastButOne_12 rfl (lv_at hl 0 rfl) ?_
    refine r_get F hK hP 0 1 rfl inW_X0 wm_141 rfl (by decide) rfl dX0_negateLastButOne_13 ?_
    refine lv_aload_n hx hb dX0_negateLastButOne_16 rfl (lv_at hl 0 rfl) ?_
    refine r_get F hK hP 0 3 rfl inW_X0 wm_143 rfl (by decide) rfl dX0_negateLastButOne_17 ?_
    refine lv_iconst (v := 2) hx hb dX0_negateLastButOne_20 (by decide) ?_
    refine lv_isub hx hb dX0_negateLastButOne_21 ?_
    obtain ⟨hi22, h⟩ := o_ix h
    refine va_iald hx hb hK hP 3 0 rfl rfl hi22 dX0_negateLastButOne_22 ?_
    refine lv_aload_n hx hb dX0_negateLastButOne_23 rfl (lv_at hl 0 rfl) ?_
    refine r_get F hK hP 0 1 rfl inW_X0 wm_141 rfl (by decide) rfl dX0_negateLastButOne_24 ?_
    refine lv_aload_n hx hb dX0_negateLastButOne_27 rfl (lv_at hl 0 rfl) ?_
    refine r_get F hK hP 0 3 rfl inW_X0 wm_143 rfl (by decide) rfl dX0_negateLastButOne_28 ?_
    refine lv_iconst (v := 1) hx hb dX0_negateLastButOne_31 (by decide) ?_
    refine lv_isub hx hb dX0_negateLastButOne_32 ?_
    obtain ⟨hi33, h⟩ := o_ix h
    refine va_iald hx hb hK hP 3 0 rfl rfl hi33 dX0_negateLastButOne_33 ?_
    obtain ⟨z34, hz34, h⟩ := o_b h
    refine k_v (wn := (ws_X0_negateLastButOne cI cJ cB a0 a_looses a_tree a_tree_cells a_starts parts tree_rows z34 tree_cells_n starts)) (As := [.int (starts (parts - 2).toNatClampNeg), .int (starts (parts - 1).toNatClampNeg)]) (rest := []) F hNw hK hP hD hS hA (c_X5_negate l D cI cJ cB a_tree a_tree_cells _ tree_rows tree_cells tree_cells_n (starts (parts - 2).toNatClampNeg) (starts (parts - 1).toNatClampNeg) N hz34) wm_781 cv_X5_negate [1, 2] [0, 3] [0, 2, 3, 1] (⟨rfl, rfl, rfl, by decide, rfl⟩ : Ix [1, 2] [0, 3] [0, 2, 3, 1] 4) rfl rfl rfl rfl rfl rfl ⟨rfl, rfl, by decide, by decide⟩ hl.1 rfl (Nat.le_of_ble_eq_true rfl) ⟨Nat.zero_le _, Nat.zero_le _⟩ dX0_negateLastButOne_34 (fun H locs hP hD hS => ?_)
    exact w_X0_negateLastButOne_37 CX hK hsz z34 _ _ _ h hP hD hS (lv_sub hl [] rfl)
section G_X0_moveLast
abbrev ws_X0_moveLast (cI cJ cB : ClassId) (a0 a_looses a_tree a_tree_cells a_starts a_p1 a_p1_cells : Nat) (parts : Int32) (tree_rows : Int32) (tree_cells : Nat → Int32) (tree_cells_n : Nat) (starts : Nat → Int32) (p1_rows : Int32) (p1_cells : Nat → Int32) (p1_cells_n : Nat) : va_W := [(a0, .inr (2, [.ref a_tree, .ref a_starts, .ref a_looses, .int parts])), (a_tree, .inr (7, [.ref a_tree_cells, .int tree_rows])), (a_tree_cells, .inl (cI, tree_cells_n, .inl tree_cells)), (a_starts, .inl (cI, 402, .inl starts)), (a_p1, .inr (7, [.ref a_p1_cells, .int p1_rows])), (a_p1_cells, .inl (cI, p1_cells_n, .inl p1_cells))]
abbrev rm_X0_moveLast : Room := { frames := 3, cells := 0, slots := 0, locals := 87 }
def f_X0_moveLast_57 (N : Nat) (parts : Int32) (tree_rows : Int32) (tree_cells : Nat → Int32) (tree_cells_n : Nat) (starts : Nat → Int32) (p1_rows : Int32) (p1_cells : Nat → Int32) (p1_cells_n : Nat) : Option ((Int32) × (Int32) × (Int32) × (Nat → Int32)) := some (parts, tree_rows, p1_rows, p1_cells)
def f_X0_moveLast (N : Nat) (parts : Int32) (tree_rows : Int32) (tree_cells : Nat → Int32) (tree_cells_n : Nat) (starts : Nat → Int32) (p1_rows : Int32) (p1_cells : Nat → Int32) (p1_cells_n : Nat) : Option ((Int32) × (Int32) × (Int32) × (Nat → Int32)) := ifb (parts ≤ 0) (f_X0_moveLast_57 N parts tree_rows tree_cells tree_cells_n starts p1_rows p1_cells p1_cells_n) (ix (parts - 1) 402 ((f_X5_become N p1_rows p1_cells p1_cells_n tree_rows tree_cells tree_cells_n (starts (parts - 1).toNatClampNeg) tree_rows).bind (fun z38 => ix (parts - 1) 402 ((f_X5_cut N tree_rows (starts (parts - 1).toNatClampNeg)).bind (fun z54 => f_X0_moveLast_57 N (parts - 1) z54 tree_cells tree_cells_n starts z38.1 z38.2 p1_cells_n)))))
variable {p : Program} {l : Launch} {e : Env} {s : State} {m : MethodId} {below : List Frame} {meth : Method} {c : Code} {args : Array Value} {x0 : Cond} {D : va_G} {cI cJ cB : ClassId} {sz N : Nat} {ws0 : va_W} {a0 a_looses a_tree a_tree_cells a_starts a_p1 a_p1_cells : Nat} {tree_cells : Nat → Int32} {tree_cells_n : Nat} {starts : Nat → Int32} {p1_cells_n : Nat} {z : (Int32) × (Int32) × (Int32) × (Nat → Int32)}
set_option maxHeartbeats 4000000 in
set_option maxRecDepth 100000 in
theorem w_X0_moveLast_57 (CX : Cx p m c cX0_moveLast 2 s args x0 RX0 meth none) (hK : va_K D vwCl (ty0 cI cJ cB) s) (hsz : s.heap.size = sz) : ∀ (parts : Int32) (tree_rows : Int32) (p1_rows : Int32) (p1_cells : Nat → Int32) (H : Heap) (locs : List Loc) (ls : Array Slot), f_X0_moveLast_57 N parts tree_rows tree_cells tree_cells_n starts p1_rows p1_cells p1_cells_n = some z → va_P D vwCl (ws_X0_moveLast cI cJ cB a0 a_looses a_tree a_tree_cells a_starts a_p1 a_p1_cells parts tree_rows tree_cells tree_cells_n starts p1_rows p1_cells p1_cells_n) H → va_D (va_A ws0 sz) (ws_X0_moveLast cI cJ cB a0 a_looses a_tree a_tree_cells a_starts a_p1 a_p1_cells parts tree_rows tree_cells tree_cells_n starts p1_rows p1_cells p1_cells_n) → va_S (va_A ws0 sz) s.heap H locs → lv_has ls 2 [] → W p l e rm_X0_moveLast s m args below meth c H locs 0 0 (MQ below (gQ D sz ws0 (ws_X0_moveLast cI cJ cB a0 a_looses a_tree a_tree_cells a_starts a_p1 a_p1_cells z.1 z.2.1 tree_cells tree_cells_n starts z.2.2.1 z.2.2.2 p1_cells_n) none) args s 0 0 (va_A ws0 sz)) (F0 m 57 ls []) := by
  obtain ⟨F, hr, hlk, hNw⟩ := id CX
  have hx := F.1
  have hb := F.2.1
  have hown := F.2.2.2.1
  have hA : ∀ q, s.heap.size ≤ q → va_A ws0 sz q := fun q hq => Or.inr (hsz ▸ hq)
  intro parts tree_rows p1_rows p1_cells H locs ls h hP hD hS hl
  unfold f_X0_moveLast_57 at h
  obtain rfl := Option.some.inj h
  exact r_vret F hr hlk dX0_moveLast_57 hsz hP hD hS
end G_X0_moveLast
set_option maxHeartbeats 4000000 in
set_option maxRecDepth 100000 in
theorem c_X0_moveLast (l : Launch) (D : va_G) (cI cJ cB : ClassId) (a0 a_looses a_tree a_tree_cells a_starts a_p1 a_p1_cells : Nat) (sz : Nat) (parts : Int32) (tree_rows : Int32) (tree_cells : Nat → Int32) (tree_cells_n : Nat) (starts : Nat → Int32) (p1_rows : Int32) (p1_cells : Nat → Int32) (p1_cells_n : Nat) (N : Nat) {z : (Int32) × (Int32) × (Int32) × (Nat → Int32)} (h : f_X0_moveLast N parts tree_rows tree_cells tree_cells_n starts p1_rows p1_cells p1_cells_n = some z) : Mg l yX0_moveLast cX0_moveLast 2 none rm_X0_moveLast D (ty0 cI cJ cB) [.ref a0, .ref a_p1] sz (ws_X0_moveLast cI cJ cB a0 a_looses a_tree a_tree_cells a_starts a_p1 a_p1_cells parts tree_rows tree_cells tree_cells_n starts p1_rows p1_cells p1_cells_n) none (ws_X0_moveLast cI cJ cB a0 a_looses a_tree a_tree_cells a_starts a_p1 a_p1_cells z.1 z.2.1 tree_cells tree_cells_n starts z.2.2.1 z.2.2.2 p1_cells_n) := by
  refine Mg.of (by decide) (Nat.le_of_ble_eq_true rfl) ?_
  intro p e s m below meth c CX hK hsz hP hD ls hl
  have CX : Cx p m c cX0_moveLast 2 s ([.ref a0, .ref a_p1] : List Value).toArray (Cond.code yX0_moveLast cX0_moveLast 2 none) RX0 meth none := CX
  obtain ⟨F, hr, hlk, hNw⟩ := id CX
  have hx := F.1
  have hb := F.2.1
  have hown := F.2.2.2.1
  have hl : lv_has ls 2 [(0, .ref a0), (1, .ref a_p1)] := hl
  have hS : va_S (va_A (ws_X0_moveLast cI cJ cB a0 a_looses a_tree a_tree_cells a_starts a_p1 a_p1_cells parts tree_rows tree_cells tree_cells_n starts p1_rows p1_cells p1_cells_n) sz) s.heap s.heap [] := va_S.rf
  have hA : ∀ q, s.heap.size ≤ q → va_A (ws_X0_moveLast cI cJ cB a0 a_looses a_tree a_tree_cells a_starts a_p1 a_p1_cells parts tree_rows tree_cells tree_cells_n starts p1_rows p1_cells p1_cells_n) sz q := fun q hq => Or.inr (hsz ▸ hq)
  unfold f_X0_moveLast at h
  refine lv_aload_n hx hb dX0_moveLast_0 rfl (lv_at hl 0 rfl) ?_
  refine r_get F hK hP 0 3 rfl inW_X0 wm_143 rfl (by decide) rfl dX0_moveLast_1 ?_
  refine lv_if_le (tgt := 57) hx hb dX0_moveLast_4 (by decide) (fun c4 => ?_) (fun c4 => ?_)
  · have h := o_t c4 h
    exact w_X0_moveLast_57 CX hK hsz parts tree_rows p1_rows p1_cells _ _ _ h hP hD hS (lv_sub hl [] rfl)
  · have h := o_f c4 h
    refine lv_aload_n hx hb dX0_moveLast_7 rfl (lv_at hl 0 rfl) ?_
    refine lv_dup hx hb dX0_moveLast_8 rfl ?_
    refine r_get F hK hP 0 3 rfl inW_X0 wm_143 rfl (by decide) rfl dX0_moveLast_9 ?_
    refine lv_iconst (v := 1) hx hb dX0_moveLast_12 (by decide) ?_
    refine lv_isub hx hb dX0_moveLast_13 ?_
    refine r_put (wn := (ws_X0_moveLast cI cJ cB a0 a_looses a_tree a_tree_cells a_starts a_p1 a_p1_cells (parts - 1) tree_rows tree_cells tree_cells_n starts p1_rows p1_cells p1_cells_n)) F hK hP hD hS 0 3 rfl inW_X0 wm_143 tyX0_ok nmX0 rfl rfl (by decide) rfl rfl (Nat.le_of_ble_eq_true rfl) rfl dX0_moveLast_14 (fun H locs hP hD hS => ?_)
    refine lv_aload_n hx hb dX0_moveLast_17 rfl (lv_at hl 1 rfl) ?_
    refine lv_aload_n hx hb dX0_moveLast_18 rfl (lv_at hl 0 rfl) ?_
    refine r_get F hK hP 0 0 rfl inW_X0 wm_138 rfl (by decide) rfl dX0_moveLast_19 ?_
    refine lv_aload_n hx hb dX0_moveLast_22 rfl (lv_at hl 0 rfl) ?_
    refine r_get F hK hP 0 1 rfl inW_X0 wm_141 rfl (by decide) rfl dX0_moveLast_23 ?_
    refine lv_aload_n hx hb dX0_moveLast_26 rfl (lv_at hl 0 rfl) ?_
    refine r_get F hK hP 0 3 rfl inW_X0 wm_143 rfl (by decide) rfl dX0_moveLast_27 ?_
    obtain ⟨hi30, h⟩ := o_ix h
    refine va_iald hx hb hK hP 3 0 rfl rfl hi30 dX0_moveLast_30 ?_
    refine lv_aload_n hx hb dX0_moveLast_31 rfl (lv_at hl 0 rfl) ?_
    refine r_get F hK hP 0 0 rfl inW_X0 wm_138 rfl (by decide) rfl dX0_moveLast_32 ?_
    refine r_getN F hNw hK hP 1 1 rfl inW_X5 nf_X0_54 rfl (by decide) rfl dX0_moveLast_35 ?_
    obtain ⟨z38, hz38, h⟩ := o_b h
    refine k_v (wn := (ws_X0_moveLast cI cJ cB a0 a_looses a_tree a_tree_cells a_starts a_p1 a_p1_cells (parts - 1) tree_rows tree_cells tree_cells_n starts z38.1 z38.2 p1_cells_n)) (As := [.ref a_tree, .int (starts (parts - 1).toNatClampNeg), .int tree_rows]) (rest := []) F hNw hK hP hD hS hA (c_X5_become l D cI cJ cB a_p1 a_p1_cells a_tree a_tree_cells _ p1_rows p1_cells p1_cells_n tree_rows tree_cells tree_cells_n (starts (parts - 1).toNatClampNeg) tree_rows N hz38) wm_866 cv_X5_become [4, 5, 1, 2] [0, 3] [0, 4, 5, 1, 2, 3] (⟨rfl, rfl, rfl, by decide, rfl⟩ : Ix [4, 5, 1, 2] [0, 3] [0, 4, 5, 1, 2, 3] 6) rfl rfl rfl rfl rfl rfl ⟨rfl, rfl, by decide, by decide⟩ hl.1 rfl (Nat.le_of_ble_eq_true rfl) ⟨Nat.zero_le _, Nat.zero_le _⟩ dX0_moveLast_38 (fun H locs hP hD hS => ?_)
    refine lv_aload_n hx hb dX0_moveLast_41 rfl (lv_at hl 0 rfl) ?_
    refine r_get F hK hP 0 0 rfl inW_X0 wm_138 rfl (by decide) rfl dX0_moveLast_42 ?_
    refine lv_aload_n hx hb dX0_moveLast_45 rfl (lv_at hl 0 rfl) ?_
    refine r_get F hK hP 0 1 rfl inW_X0 wm_141 rfl (by decide) rfl dX0_moveLast_46 ?_
    refine lv_aload_n hx hb dX0_moveLast_49 rfl (lv_at hl 0 rfl) ?_
    refine r_get F hK hP 0 3 rfl inW_X0 wm_143 rfl (by decide) rfl dX0_moveLast_50 ?_
    obtain ⟨hi53, h⟩ := o_ix h
    refine va_iald hx hb hK hP 3 0 rfl rfl hi53 dX0_moveLast_53 ?_
    obtain ⟨z54, hz54, h⟩ := o_b h
    refine k_v (wn := (ws_X0_moveLast cI cJ cB a0 a_looses a_tree a_tree_cells a_starts a_p1 a_p1_cells (parts - 1) z54 tree_cells tree_cells_n starts z38.1 z38.2 p1_cells_n)) (As := [.int (starts (parts - 1).toNatClampNeg)]) (rest := []) F hNw hK hP hD hS hA (c_X5_cut l D cI cJ cB a_tree a_tree_cells _ tree_rows (starts (parts - 1).toNatClampNeg) N hz54) wm_630 cv_X5_cut [1] [0, 2, 3, 4, 5] [0, 5, 1, 2, 3, 4] (⟨rfl, rfl, rfl, by decide, rfl⟩ : Ix [1] [0, 2, 3, 4, 5] [0, 5, 1, 2, 3, 4] 6) rfl rfl rfl rfl rfl rfl ⟨rfl, rfl, by decide, by decide⟩ hl.1 rfl (Nat.le_of_ble_eq_true rfl) ⟨Nat.zero_le _, Nat.zero_le _⟩ dX0_moveLast_54 (fun H locs hP hD hS => ?_)
    exact w_X0_moveLast_57 CX hK hsz (parts - 1) z54 z38.1 z38.2 _ _ _ h hP hD hS (lv_sub hl [] rfl)
section G_X0_lastKind
abbrev ws_X0_lastKind (cI cJ cB : ClassId) (a0 a_starts a_looses a_tree a_tree_cells : Nat) (parts : Int32) (tree_rows : Int32) (tree_cells : Nat → Int32) (tree_cells_n : Nat) : va_W := [(a0, .inr (2, [.ref a_tree, .ref a_starts, .ref a_looses, .int parts])), (a_tree, .inr (7, [.ref a_tree_cells, .int tree_rows])), (a_tree_cells, .inl (cI, tree_cells_n, .inl tree_cells))]
abbrev rm_X0_lastKind : Room := { frames := 1, cells := 0, slots := 0, locals := 21 }
def f_X0_lastKind (N : Nat) (tree_rows : Int32) (tree_cells : Nat → Int32) (tree_cells_n : Nat) : Option (Int32) := (f_X5_kind N tree_rows tree_cells tree_cells_n (tree_rows - 1)).bind (fun z13 => some z13)
variable {p : Program} {l : Launch} {e : Env} {s : State} {m : MethodId} {below : List Frame} {meth : Method} {c : Code} {args : Array Value} {x0 : Cond} {D : va_G} {cI cJ cB : ClassId} {sz N : Nat} {ws0 : va_W} {a0 a_starts a_looses a_tree a_tree_cells : Nat} {parts : Int32} {tree_rows : Int32} {tree_cells : Nat → Int32} {tree_cells_n : Nat} {z : Int32}
end G_X0_lastKind
set_option maxHeartbeats 4000000 in
set_option maxRecDepth 100000 in
theorem c_X0_lastKind (l : Launch) (D : va_G) (cI cJ cB : ClassId) (a0 a_starts a_looses a_tree a_tree_cells : Nat) (sz : Nat) (parts : Int32) (tree_rows : Int32) (tree_cells : Nat → Int32) (tree_cells_n : Nat) (N : Nat) {z : Int32} (h : f_X0_lastKind N tree_rows tree_cells tree_cells_n = some z) : Mg l yX0_lastKind cX0_lastKind 1 (some .int) rm_X0_lastKind D (ty0 cI cJ cB) [.ref a0] sz (ws_X0_lastKind cI cJ cB a0 a_starts a_looses a_tree a_tree_cells parts tree_rows tree_cells tree_cells_n) (some (.int z)) (ws_X0_lastKind cI cJ cB a0 a_starts a_looses a_tree a_tree_cells parts tree_rows tree_cells tree_cells_n) := by
  refine Mg.of (by decide) (Nat.le_of_ble_eq_true rfl) ?_
  intro p e s m below meth c CX hK hsz hP hD ls hl
  have CX : Cx p m c cX0_lastKind 1 s ([.ref a0] : List Value).toArray (Cond.code yX0_lastKind cX0_lastKind 1 (some .int)) RX0 meth (some .int) := CX
  obtain ⟨F, hr, hlk, hNw⟩ := id CX
  have hx := F.1
  have hb := F.2.1
  have hown := F.2.2.2.1
  have hl : lv_has ls 1 [(0, .ref a0)] := hl
  have hS : va_S (va_A (ws_X0_lastKind cI cJ cB a0 a_starts a_looses a_tree a_tree_cells parts tree_rows tree_cells tree_cells_n) sz) s.heap s.heap [] := va_S.rf
  have hA : ∀ q, s.heap.size ≤ q → va_A (ws_X0_lastKind cI cJ cB a0 a_starts a_looses a_tree a_tree_cells parts tree_rows tree_cells tree_cells_n) sz q := fun q hq => Or.inr (hsz ▸ hq)
  unfold f_X0_lastKind at h
  refine lv_aload_n hx hb dX0_lastKind_0 rfl (lv_at hl 0 rfl) ?_
  refine r_get F hK hP 0 0 rfl inW_X0 wm_138 rfl (by decide) rfl dX0_lastKind_1 ?_
  refine lv_aload_n hx hb dX0_lastKind_4 rfl (lv_at hl 0 rfl) ?_
  refine r_get F hK hP 0 0 rfl inW_X0 wm_138 rfl (by decide) rfl dX0_lastKind_5 ?_
  refine r_getN F hNw hK hP 1 1 rfl inW_X5 nf_X0_54 rfl (by decide) rfl dX0_lastKind_8 ?_
  refine lv_iconst (v := 1) hx hb dX0_lastKind_11 (by decide) ?_
  refine lv_isub hx hb dX0_lastKind_12 ?_
  obtain ⟨z13, hz13, h⟩ := o_b h
  refine k_v (wn := (ws_X0_lastKind cI cJ cB a0 a_starts a_looses a_tree a_tree_cells parts tree_rows tree_cells tree_cells_n)) (As := [.int (tree_rows - 1)]) (rest := []) F hNw hK hP hD hS hA (c_X5_kind l D cI cJ cB a_tree a_tree_cells _ tree_rows tree_cells tree_cells_n (tree_rows - 1) N hz13) wm_760 cv_X5_kind [1, 2] [0] [0, 1, 2] (⟨rfl, rfl, rfl, by decide, rfl⟩ : Ix [1, 2] [0] [0, 1, 2] 3) rfl rfl rfl rfl rfl rfl ⟨rfl, rfl, by decide, by decide⟩ hl.1 rfl (Nat.le_of_ble_eq_true rfl) ⟨Nat.zero_le _, Nat.zero_le _⟩ dX0_lastKind_13 (fun H locs hP hD hS => ?_)
  obtain rfl := Option.some.inj h
  exact r_ret (v := z13) F hr hlk rfl dX0_lastKind_16 hsz hP hD hS
section G_X0_lastLoose
abbrev ws_X0_lastLoose (cI cJ cB : ClassId) (a0 a_tree a_starts a_looses : Nat) (parts : Int32) (looses : Nat → Int32) : va_W := [(a0, .inr (2, [.ref a_tree, .ref a_starts, .ref a_looses, .int parts])), (a_looses, .inl (cI, 402, .inl looses))]
abbrev rm_X0_lastLoose : Room := { frames := 0, cells := 0, slots := 0, locals := 0 }
def f_X0_lastLoose_22 (N : Nat) (parts : Int32) (looses : Nat → Int32) (s0 : Int32) : Option (Int32) := some s0
def f_X0_lastLoose (N : Nat) (parts : Int32) (looses : Nat → Int32) : Option (Int32) := ifb (parts ≤ 0) (f_X0_lastLoose_22 N parts looses 0) (ix (parts - 1) 402 (f_X0_lastLoose_22 N parts looses (looses (parts - 1).toNatClampNeg)))
variable {p : Program} {l : Launch} {e : Env} {s : State} {m : MethodId} {below : List Frame} {meth : Method} {c : Code} {args : Array Value} {x0 : Cond} {D : va_G} {cI cJ cB : ClassId} {sz N : Nat} {ws0 : va_W} {a0 a_tree a_starts a_looses : Nat} {parts : Int32} {looses : Nat → Int32} {z : Int32}
set_option maxHeartbeats 4000000 in
set_option maxRecDepth 100000 in
theorem w_X0_lastLoose_22 (CX : Cx p m c cX0_lastLoose 1 s args x0 RX0 meth (some .int)) (hK : va_K D vwCl (ty0 cI cJ cB) s) (hsz : s.heap.size = sz) : ∀ (s0 : Int32) (H : Heap) (locs : List Loc) (ls : Array Slot), f_X0_lastLoose_22 N parts looses s0 = some z → va_P D vwCl (ws_X0_lastLoose cI cJ cB a0 a_tree a_starts a_looses parts looses) H → va_D (va_A ws0 sz) (ws_X0_lastLoose cI cJ cB a0 a_tree a_starts a_looses parts looses) → va_S (va_A ws0 sz) s.heap H locs → lv_has ls 1 [] → W p l e rm_X0_lastLoose s m args below meth c H locs 0 0 (MQ below (gQ D sz ws0 (ws_X0_lastLoose cI cJ cB a0 a_tree a_starts a_looses parts looses) (some (.int z))) args s 0 0 (va_A ws0 sz)) (F0 m 22 ls [.int s0]) := by
  obtain ⟨F, hr, hlk, hNw⟩ := id CX
  have hx := F.1
  have hb := F.2.1
  have hown := F.2.2.2.1
  have hA : ∀ q, s.heap.size ≤ q → va_A ws0 sz q := fun q hq => Or.inr (hsz ▸ hq)
  intro s0 H locs ls h hP hD hS hl
  unfold f_X0_lastLoose_22 at h
  obtain rfl := Option.some.inj h
  exact r_ret (v := s0) F hr hlk rfl dX0_lastLoose_22 hsz hP hD hS
end G_X0_lastLoose
set_option maxHeartbeats 4000000 in
set_option maxRecDepth 100000 in
theorem c_X0_lastLoose (l : Launch) (D : va_G) (cI cJ cB : ClassId) (a0 a_tree a_starts a_looses : Nat) (sz : Nat) (parts : Int32) (looses : Nat → Int32) (N : Nat) {z : Int32} (h : f_X0_lastLoose N parts looses = some z) : Mg l yX0_lastLoose cX0_lastLoose 1 (some .int) rm_X0_lastLoose D (ty0 cI cJ cB) [.ref a0] sz (ws_X0_lastLoose cI cJ cB a0 a_tree a_starts a_looses parts looses) (some (.int z)) (ws_X0_lastLoose cI cJ cB a0 a_tree a_starts a_looses parts looses) := by
  refine Mg.of (by decide) (Nat.le_of_ble_eq_true rfl) ?_
  intro p e s m below meth c CX hK hsz hP hD ls hl
  have CX : Cx p m c cX0_lastLoose 1 s ([.ref a0] : List Value).toArray (Cond.code yX0_lastLoose cX0_lastLoose 1 (some .int)) RX0 meth (some .int) := CX
  obtain ⟨F, hr, hlk, hNw⟩ := id CX
  have hx := F.1
  have hb := F.2.1
  have hown := F.2.2.2.1
  have hl : lv_has ls 1 [(0, .ref a0)] := hl
  have hS : va_S (va_A (ws_X0_lastLoose cI cJ cB a0 a_tree a_starts a_looses parts looses) sz) s.heap s.heap [] := va_S.rf
  have hA : ∀ q, s.heap.size ≤ q → va_A (ws_X0_lastLoose cI cJ cB a0 a_tree a_starts a_looses parts looses) sz q := fun q hq => Or.inr (hsz ▸ hq)
  unfold f_X0_lastLoose at h
  refine lv_aload_n hx hb dX0_lastLoose_0 rfl (lv_at hl 0 rfl) ?_
  refine r_get F hK hP 0 3 rfl inW_X0 wm_143 rfl (by decide) rfl dX0_lastLoose_1 ?_
  refine lv_if_le (tgt := 21) hx hb dX0_lastLoose_4 (by decide) (fun c4 => ?_) (fun c4 => ?_)
  · have h := o_t c4 h
    refine lv_iconst (v := 0) hx hb dX0_lastLoose_21 (by decide) ?_
    exact w_X0_lastLoose_22 CX hK hsz 0 _ _ _ h hP hD hS (lv_sub hl [] rfl)
  · have h := o_f c4 h
    refine lv_aload_n hx hb dX0_lastLoose_7 rfl (lv_at hl 0 rfl) ?_
    refine r_get F hK hP 0 2 rfl inW_X0 wm_142 rfl (by decide) rfl dX0_lastLoose_8 ?_
    refine lv_aload_n hx hb dX0_lastLoose_11 rfl (lv_at hl 0 rfl) ?_
    refine r_get F hK hP 0 3 rfl inW_X0 wm_143 rfl (by decide) rfl dX0_lastLoose_12 ?_
    refine lv_iconst (v := 1) hx hb dX0_lastLoose_15 (by decide) ?_
    refine lv_isub hx hb dX0_lastLoose_16 ?_
    obtain ⟨hi17, h⟩ := o_ix h
    refine va_iald hx hb hK hP 1 0 rfl rfl hi17 dX0_lastLoose_17 ?_
    refine lv_goto (tgt := 22) hx hb dX0_lastLoose_18 (by decide) ?_
    exact w_X0_lastLoose_22 CX hK hsz (looses (parts - 1).toNatClampNeg) _ _ _ h hP hD hS (lv_sub hl [] rfl)
section G_X0_lastNodes
abbrev ws_X0_lastNodes (cI cJ cB : ClassId) (a0 a_looses a_tree a_tree_cells a_starts : Nat) (parts : Int32) (tree_rows : Int32) (starts : Nat → Int32) : va_W := [(a0, .inr (2, [.ref a_tree, .ref a_starts, .ref a_looses, .int parts])), (a_tree, .inr (7, [.ref a_tree_cells, .int tree_rows])), (a_starts, .inl (cI, 402, .inl starts))]
abbrev rm_X0_lastNodes : Room := { frames := 0, cells := 0, slots := 0, locals := 0 }
def f_X0_lastNodes_30 (N : Nat) (parts : Int32) (tree_rows : Int32) (starts : Nat → Int32) (s0 : Int32) : Option (Int32) := some s0
def f_X0_lastNodes (N : Nat) (parts : Int32) (tree_rows : Int32) (starts : Nat → Int32) : Option (Int32) := ifb (parts ≤ 0) (f_X0_lastNodes_30 N parts tree_rows starts 0) (ix (parts - 1) 402 (f_X0_lastNodes_30 N parts tree_rows starts (tree_rows - (starts (parts - 1).toNatClampNeg))))
variable {p : Program} {l : Launch} {e : Env} {s : State} {m : MethodId} {below : List Frame} {meth : Method} {c : Code} {args : Array Value} {x0 : Cond} {D : va_G} {cI cJ cB : ClassId} {sz N : Nat} {ws0 : va_W} {a0 a_looses a_tree a_tree_cells a_starts : Nat} {parts : Int32} {tree_rows : Int32} {starts : Nat → Int32} {z : Int32}
set_option maxHeartbeats 4000000 in
set_option maxRecDepth 100000 in
theorem w_X0_lastNodes_30 (CX : Cx p m c cX0_lastNodes 1 s args x0 RX0 meth (some .int)) (hK : va_K D vwCl (ty0 cI cJ cB) s) (hsz : s.heap.size = sz) : ∀ (s0 : Int32) (H : Heap) (locs : List Loc) (ls : Array Slot), f_X0_lastNodes_30 N parts tree_rows starts s0 = some z → va_P D vwCl (ws_X0_lastNodes cI cJ cB a0 a_looses a_tree a_tree_cells a_starts parts tree_rows starts) H → va_D (va_A ws0 sz) (ws_X0_lastNodes cI cJ cB a0 a_looses a_tree a_tree_cells a_starts parts tree_rows starts) → va_S (va_A ws0 sz) s.heap H locs → lv_has ls 1 [] → W p l e rm_X0_lastNodes s m args below meth c H locs 0 0 (MQ below (gQ D sz ws0 (ws_X0_lastNodes cI cJ cB a0 a_looses a_tree a_tree_cells a_starts parts tree_rows starts) (some (.int z))) args s 0 0 (va_A ws0 sz)) (F0 m 30 ls [.int s0]) := by
  obtain ⟨F, hr, hlk, hNw⟩ := id CX
  have hx := F.1
  have hb := F.2.1
  have hown := F.2.2.2.1
  have hA : ∀ q, s.heap.size ≤ q → va_A ws0 sz q := fun q hq => Or.inr (hsz ▸ hq)
  intro s0 H locs ls h hP hD hS hl
  unfold f_X0_lastNodes_30 at h
  obtain rfl := Option.some.inj h
  exact r_ret (v := s0) F hr hlk rfl dX0_lastNodes_30 hsz hP hD hS
end G_X0_lastNodes
set_option maxHeartbeats 4000000 in
set_option maxRecDepth 100000 in
theorem c_X0_lastNodes (l : Launch) (D : va_G) (cI cJ cB : ClassId) (a0 a_looses a_tree a_tree_cells a_starts : Nat) (sz : Nat) (parts : Int32) (tree_rows : Int32) (starts : Nat → Int32) (N : Nat) {z : Int32} (h : f_X0_lastNodes N parts tree_rows starts = some z) : Mg l yX0_lastNodes cX0_lastNodes 1 (some .int) rm_X0_lastNodes D (ty0 cI cJ cB) [.ref a0] sz (ws_X0_lastNodes cI cJ cB a0 a_looses a_tree a_tree_cells a_starts parts tree_rows starts) (some (.int z)) (ws_X0_lastNodes cI cJ cB a0 a_looses a_tree a_tree_cells a_starts parts tree_rows starts) := by
  refine Mg.of (by decide) (Nat.le_of_ble_eq_true rfl) ?_
  intro p e s m below meth c CX hK hsz hP hD ls hl
  have CX : Cx p m c cX0_lastNodes 1 s ([.ref a0] : List Value).toArray (Cond.code yX0_lastNodes cX0_lastNodes 1 (some .int)) RX0 meth (some .int) := CX
  obtain ⟨F, hr, hlk, hNw⟩ := id CX
  have hx := F.1
  have hb := F.2.1
  have hown := F.2.2.2.1
  have hl : lv_has ls 1 [(0, .ref a0)] := hl
  have hS : va_S (va_A (ws_X0_lastNodes cI cJ cB a0 a_looses a_tree a_tree_cells a_starts parts tree_rows starts) sz) s.heap s.heap [] := va_S.rf
  have hA : ∀ q, s.heap.size ≤ q → va_A (ws_X0_lastNodes cI cJ cB a0 a_looses a_tree a_tree_cells a_starts parts tree_rows starts) sz q := fun q hq => Or.inr (hsz ▸ hq)
  unfold f_X0_lastNodes at h
  refine lv_aload_n hx hb dX0_lastNodes_0 rfl (lv_at hl 0 rfl) ?_
  refine r_get F hK hP 0 3 rfl inW_X0 wm_143 rfl (by decide) rfl dX0_lastNodes_1 ?_
  refine lv_if_le (tgt := 29) hx hb dX0_lastNodes_4 (by decide) (fun c4 => ?_) (fun c4 => ?_)
  · have h := o_t c4 h
    refine lv_iconst (v := 0) hx hb dX0_lastNodes_29 (by decide) ?_
    exact w_X0_lastNodes_30 CX hK hsz 0 _ _ _ h hP hD hS (lv_sub hl [] rfl)
  · have h := o_f c4 h
    refine lv_aload_n hx hb dX0_lastNodes_7 rfl (lv_at hl 0 rfl) ?_
    refine r_get F hK hP 0 0 rfl inW_X0 wm_138 rfl (by decide) rfl dX0_lastNodes_8 ?_
    refine r_getN F hNw hK hP 1 1 rfl inW_X5 nf_X0_54 rfl (by decide) rfl dX0_lastNodes_11 ?_
    refine lv_aload_n hx hb dX0_lastNodes_14 rfl (lv_at hl 0 rfl) ?_
    refine r_get F hK hP 0 1 rfl inW_X0 wm_141 rfl (by decide) rfl dX0_lastNodes_15 ?_
    refine lv_aload_n hx hb dX0_lastNodes_18 rfl (lv_at hl 0 rfl) ?_
    refine r_get F hK hP 0 3 rfl inW_X0 wm_143 rfl (by decide) rfl dX0_lastNodes_19 ?_
    refine lv_iconst (v := 1) hx hb dX0_lastNodes_22 (by decide) ?_
    refine lv_isub hx hb dX0_lastNodes_23 ?_
    obtain ⟨hi24, h⟩ := o_ix h
    refine va_iald hx hb hK hP 2 0 rfl rfl hi24 dX0_lastNodes_24 ?_
    refine lv_isub hx hb dX0_lastNodes_25 ?_
    refine lv_goto (tgt := 30) hx hb dX0_lastNodes_26 (by decide) ?_
    exact w_X0_lastNodes_30 CX hK hsz (tree_rows - (starts (parts - 1).toNatClampNeg)) _ _ _ h hP hD hS (lv_sub hl [] rfl)
section G_X0_open
abbrev ws_X0_open (cI cJ cB : ClassId) (a0 a_tree a_tree_cells a_starts a_looses : Nat) (parts : Int32) (tree_rows : Int32) (starts : Nat → Int32) (looses : Nat → Int32) : va_W := [(a0, .inr (2, [.ref a_tree, .ref a_starts, .ref a_looses, .int parts])), (a_tree, .inr (7, [.ref a_tree_cells, .int tree_rows])), (a_starts, .inl (cI, 402, .inl starts)), (a_looses, .inl (cI, 402, .inl looses))]
abbrev rm_X0_open : Room := { frames := 0, cells := 0, slots := 0, locals := 0 }
def f_X0_open_46 (N : Nat) (parts : Int32) (tree_rows : Int32) (starts : Nat → Int32) (looses : Nat → Int32) : Option ((Int32) × (Nat → Int32) × (Nat → Int32)) := some (parts, starts, looses)
def f_X0_open (N : Nat) (parts : Int32) (tree_rows : Int32) (starts : Nat → Int32) (looses : Nat → Int32) (x1 : Int32) : Option ((Int32) × (Nat → Int32) × (Nat → Int32)) := ifb (402 ≤ parts) (f_X0_open_46 N parts tree_rows starts looses) (ix parts 402 (ix parts 402 (f_X0_open_46 N (parts + 1) tree_rows (upd starts parts.toNatClampNeg tree_rows) (upd looses parts.toNatClampNeg x1))))
variable {p : Program} {l : Launch} {e : Env} {s : State} {m : MethodId} {below : List Frame} {meth : Method} {c : Code} {args : Array Value} {x0 : Cond} {D : va_G} {cI cJ cB : ClassId} {sz N : Nat} {ws0 : va_W} {a0 a_tree a_tree_cells a_starts a_looses : Nat} {tree_rows : Int32} {z : (Int32) × (Nat → Int32) × (Nat → Int32)}
set_option maxHeartbeats 4000000 in
set_option maxRecDepth 100000 in
theorem w_X0_open_46 (CX : Cx p m c cX0_open 2 s args x0 RX0 meth none) (hK : va_K D vwCl (ty0 cI cJ cB) s) (hsz : s.heap.size = sz) : ∀ (parts : Int32) (starts : Nat → Int32) (looses : Nat → Int32) (H : Heap) (locs : List Loc) (ls : Array Slot), f_X0_open_46 N parts tree_rows starts looses = some z → va_P D vwCl (ws_X0_open cI cJ cB a0 a_tree a_tree_cells a_starts a_looses parts tree_rows starts looses) H → va_D (va_A ws0 sz) (ws_X0_open cI cJ cB a0 a_tree a_tree_cells a_starts a_looses parts tree_rows starts looses) → va_S (va_A ws0 sz) s.heap H locs → lv_has ls 2 [] → W p l e rm_X0_open s m args below meth c H locs 0 0 (MQ below (gQ D sz ws0 (ws_X0_open cI cJ cB a0 a_tree a_tree_cells a_starts a_looses z.1 tree_rows z.2.1 z.2.2) none) args s 0 0 (va_A ws0 sz)) (F0 m 46 ls []) := by
  obtain ⟨F, hr, hlk, hNw⟩ := id CX
  have hx := F.1
  have hb := F.2.1
  have hown := F.2.2.2.1
  have hA : ∀ q, s.heap.size ≤ q → va_A ws0 sz q := fun q hq => Or.inr (hsz ▸ hq)
  intro parts starts looses H locs ls h hP hD hS hl
  unfold f_X0_open_46 at h
  obtain rfl := Option.some.inj h
  exact r_vret F hr hlk dX0_open_46 hsz hP hD hS
end G_X0_open
set_option maxHeartbeats 4000000 in
set_option maxRecDepth 100000 in
theorem c_X0_open (l : Launch) (D : va_G) (cI cJ cB : ClassId) (a0 a_tree a_tree_cells a_starts a_looses : Nat) (sz : Nat) (parts : Int32) (tree_rows : Int32) (starts : Nat → Int32) (looses : Nat → Int32) (x1 : Int32) (N : Nat) {z : (Int32) × (Nat → Int32) × (Nat → Int32)} (h : f_X0_open N parts tree_rows starts looses x1 = some z) : Mg l yX0_open cX0_open 2 none rm_X0_open D (ty0 cI cJ cB) [.ref a0, .int x1] sz (ws_X0_open cI cJ cB a0 a_tree a_tree_cells a_starts a_looses parts tree_rows starts looses) none (ws_X0_open cI cJ cB a0 a_tree a_tree_cells a_starts a_looses z.1 tree_rows z.2.1 z.2.2) := by
  refine Mg.of (by decide) (Nat.le_of_ble_eq_true rfl) ?_
  intro p e s m below meth c CX hK hsz hP hD ls hl
  have CX : Cx p m c cX0_open 2 s ([.ref a0, .int x1] : List Value).toArray (Cond.code yX0_open cX0_open 2 none) RX0 meth none := CX
  obtain ⟨F, hr, hlk, hNw⟩ := id CX
  have hx := F.1
  have hb := F.2.1
  have hown := F.2.2.2.1
  have hl : lv_has ls 2 [(0, .ref a0), (1, .int x1)] := hl
  have hS : va_S (va_A (ws_X0_open cI cJ cB a0 a_tree a_tree_cells a_starts a_looses parts tree_rows starts looses) sz) s.heap s.heap [] := va_S.rf
  have hA : ∀ q, s.heap.size ≤ q → va_A (ws_X0_open cI cJ cB a0 a_tree a_tree_cells a_starts a_looses parts tree_rows starts looses) sz q := fun q hq => Or.inr (hsz ▸ hq)
  unfold f_X0_open at h
  refine lv_aload_n hx hb dX0_open_0 rfl (lv_at hl 0 rfl) ?_
  refine r_get F hK hP 0 3 rfl inW_X0 wm_143 rfl (by decide) rfl dX0_open_1 ?_
  refine lv_sipush (v := 402) hx hb dX0_open_4 (by decide) ?_
  refine lv_icmp_ge (tgt := 46) hx hb dX0_open_7 (by decide) (fun c7 => ?_) (fun c7 => ?_)
  · have h := o_t c7 h
    exact w_X0_open_46 CX hK hsz parts starts looses _ _ _ h hP hD hS (lv_sub hl [] rfl)
  · have h := o_f c7 h
    refine lv_aload_n hx hb dX0_open_10 rfl (lv_at hl 0 rfl) ?_
    refine r_get F hK hP 0 1 rfl inW_X0 wm_141 rfl (by decide) rfl dX0_open_11 ?_
    refine lv_aload_n hx hb dX0_open_14 rfl (lv_at hl 0 rfl) ?_
    refine r_get F hK hP 0 3 rfl inW_X0 wm_143 rfl (by decide) rfl dX0_open_15 ?_
    refine lv_aload_n hx hb dX0_open_18 rfl (lv_at hl 0 rfl) ?_
    refine r_get F hK hP 0 0 rfl inW_X0 wm_138 rfl (by decide) rfl dX0_open_19 ?_
    refine r_getN F hNw hK hP 1 1 rfl inW_X5 nf_X0_54 rfl (by decide) rfl dX0_open_22 ?_
    obtain ⟨hi25, h⟩ := o_ix h
    refine r_iast (wn := (ws_X0_open cI cJ cB a0 a_tree a_tree_cells a_starts a_looses parts tree_rows (upd starts parts.toNatClampNeg tree_rows) looses)) F hK hP hD hS 2 0 hi25 rfl rfl rfl dX0_open_25 (fun H locs hP hD hS => ?_)
    refine lv_aload_n hx hb dX0_open_26 rfl (lv_at hl 0 rfl) ?_
    refine r_get F hK hP 0 2 rfl inW_X0 wm_142 rfl (by decide) rfl dX0_open_27 ?_
    refine lv_aload_n hx hb dX0_open_30 rfl (lv_at hl 0 rfl) ?_
    refine r_get F hK hP 0 3 rfl inW_X0 wm_143 rfl (by decide) rfl dX0_open_31 ?_
    refine lv_iload_n hx hb dX0_open_34 rfl (lv_at hl 1 rfl) ?_
    obtain ⟨hi35, h⟩ := o_ix h
    refine r_iast (wn := (ws_X0_open cI cJ cB a0 a_tree a_tree_cells a_starts a_looses parts tree_rows (upd starts parts.toNatClampNeg tree_rows) (upd looses parts.toNatClampNeg x1))) F hK hP hD hS 3 0 hi35 rfl rfl rfl dX0_open_35 (fun H locs hP hD hS => ?_)
    refine lv_aload_n hx hb dX0_open_36 rfl (lv_at hl 0 rfl) ?_
    refine lv_dup hx hb dX0_open_37 rfl ?_
    refine r_get F hK hP 0 3 rfl inW_X0 wm_143 rfl (by decide) rfl dX0_open_38 ?_
    refine lv_iconst (v := 1) hx hb dX0_open_41 (by decide) ?_
    refine lv_iadd hx hb dX0_open_42 ?_
    refine r_put (wn := (ws_X0_open cI cJ cB a0 a_tree a_tree_cells a_starts a_looses (parts + 1) tree_rows (upd starts parts.toNatClampNeg tree_rows) (upd looses parts.toNatClampNeg x1))) F hK hP hD hS 0 3 rfl inW_X0 wm_143 tyX0_ok nmX0 rfl rfl (by decide) rfl rfl (Nat.le_of_ble_eq_true rfl) rfl dX0_open_43 (fun H locs hP hD hS => ?_)
    exact w_X0_open_46 CX hK hsz (parts + 1) (upd starts parts.toNatClampNeg tree_rows) (upd looses parts.toNatClampNeg x1) _ _ _ h hP hD hS (lv_sub hl [] rfl)
section G_X0_push
abbrev ws_X0_push (cI cJ cB : ClassId) (a0 a_tree a_tree_cells a_starts a_looses : Nat) (parts : Int32) (tree_rows : Int32) (tree_cells : Nat → Int32) (tree_cells_n : Nat) (starts : Nat → Int32) (looses : Nat → Int32) : va_W := [(a0, .inr (2, [.ref a_tree, .ref a_starts, .ref a_looses, .int parts])), (a_tree, .inr (7, [.ref a_tree_cells, .int tree_rows])), (a_tree_cells, .inl (cI, tree_cells_n, .inl tree_cells)), (a_starts, .inl (cI, 402, .inl starts)), (a_looses, .inl (cI, 402, .inl looses))]
abbrev rm_X0_push : Room := { frames := 3, cells := 0, slots := 0, locals := 68 }
def f_X0_push (N : Nat) (parts : Int32) (tree_rows : Int32) (tree_cells : Nat → Int32) (tree_cells_n : Nat) (starts : Nat → Int32) (looses : Nat → Int32) (x1 : Int32) : Option ((Int32) × (Int32) × (Nat → Int32) × (Nat → Int32) × (Nat → Int32)) := (f_X0_open N parts tree_rows starts looses 0).bind (fun z2 => (f_X5_add N tree_rows tree_cells tree_cells_n x1).bind (fun z10 => some (z2.1, z10.1, z10.2, z2.2.1, z2.2.2)))
variable {p : Program} {l : Launch} {e : Env} {s : State} {m : MethodId} {below : List Frame} {meth : Method} {c : Code} {args : Array Value} {x0 : Cond} {D : va_G} {cI cJ cB : ClassId} {sz N : Nat} {ws0 : va_W} {a0 a_tree a_tree_cells a_starts a_looses : Nat} {tree_cells_n : Nat} {z : (Int32) × (Int32) × (Nat → Int32) × (Nat → Int32) × (Nat → Int32)}
end G_X0_push
set_option maxHeartbeats 4000000 in
set_option maxRecDepth 100000 in
theorem c_X0_push (l : Launch) (D : va_G) (cI cJ cB : ClassId) (a0 a_tree a_tree_cells a_starts a_looses : Nat) (sz : Nat) (parts : Int32) (tree_rows : Int32) (tree_cells : Nat → Int32) (tree_cells_n : Nat) (starts : Nat → Int32) (looses : Nat → Int32) (x1 : Int32) (N : Nat) {z : (Int32) × (Int32) × (Nat → Int32) × (Nat → Int32) × (Nat → Int32)} (h : f_X0_push N parts tree_rows tree_cells tree_cells_n starts looses x1 = some z) : Mg l yX0_push cX0_push 2 none rm_X0_push D (ty0 cI cJ cB) [.ref a0, .int x1] sz (ws_X0_push cI cJ cB a0 a_tree a_tree_cells a_starts a_looses parts tree_rows tree_cells tree_cells_n starts looses) none (ws_X0_push cI cJ cB a0 a_tree a_tree_cells a_starts a_looses z.1 z.2.1 z.2.2.1 tree_cells_n z.2.2.2.1 z.2.2.2.2) := by
  refine Mg.of (by decide) (Nat.le_of_ble_eq_true rfl) ?_
  intro p e s m below meth c CX hK hsz hP hD ls hl
  have CX : Cx p m c cX0_push 2 s ([.ref a0, .int x1] : List Value).toArray (Cond.code yX0_push cX0_push 2 none) RX0 meth none := CX
  obtain ⟨F, hr, hlk, hNw⟩ := id CX
  have hx := F.1
  have hb := F.2.1
  have hown := F.2.2.2.1
  have hl : lv_has ls 2 [(0, .ref a0), (1, .int x1)] := hl
  have hS : va_S (va_A (ws_X0_push cI cJ cB a0 a_tree a_tree_cells a_starts a_looses parts tree_rows tree_cells tree_cells_n starts looses) sz) s.heap s.heap [] := va_S.rf
  have hA : ∀ q, s.heap.size ≤ q → va_A (ws_X0_push cI cJ cB a0 a_tree a_tree_cells a_starts a_looses parts tree_rows tree_cells tree_cells_n starts looses) sz q := fun q hq => Or.inr (hsz ▸ hq)
  unfold f_X0_push at h
  refine lv_aload_n hx hb dX0_push_0 rfl (lv_at hl 0 rfl) ?_
  refine lv_iconst (v := 0) hx hb dX0_push_1 (by decide) ?_
  obtain ⟨z2, hz2, h⟩ := o_b h
  refine k_v (wn := (ws_X0_push cI cJ cB a0 a_tree a_tree_cells a_starts a_looses z2.1 tree_rows tree_cells tree_cells_n z2.2.1 z2.2.2)) (As := [.int 0]) (rest := []) F hNw hK hP hD hS hA (c_X0_open l D cI cJ cB a0 a_tree a_tree_cells a_starts a_looses _ parts tree_rows starts looses 0 N hz2) wm_665 cv_X0_open [0, 1, 3, 4] [2] [1, 2, 0, 3, 4] (⟨rfl, rfl, rfl, by decide, rfl⟩ : Ix [0, 1, 3, 4] [2] [1, 2, 0, 3, 4] 5) rfl rfl rfl rfl rfl rfl ⟨rfl, rfl, by decide, by decide⟩ hl.1 rfl (Nat.le_of_ble_eq_true rfl) ⟨Nat.zero_le _, Nat.zero_le _⟩ dX0_push_2 (fun H locs hP hD hS => ?_)
  refine lv_aload_n hx hb dX0_push_5 rfl (lv_at hl 0 rfl) ?_
  refine r_get F hK hP 0 0 rfl inW_X0 wm_138 rfl (by decide) rfl dX0_push_6 ?_
  refine lv_iload_n hx hb dX0_push_9 rfl (lv_at hl 1 rfl) ?_
  obtain ⟨z10, hz10, h⟩ := o_b h
  refine k_v (wn := (ws_X0_push cI cJ cB a0 a_tree a_tree_cells a_starts a_looses z2.1 z10.1 z10.2 tree_cells_n z2.2.1 z2.2.2)) (As := [.int x1]) (rest := []) F hNw hK hP hD hS hA (c_X5_add l D cI cJ cB a_tree a_tree_cells _ tree_rows tree_cells tree_cells_n x1 N hz10) wm_669 cv_X5_add [1, 2] [0, 3, 4] [0, 3, 4, 1, 2] (⟨rfl, rfl, rfl, by decide, rfl⟩ : Ix [1, 2] [0, 3, 4] [0, 3, 4, 1, 2] 5) rfl rfl rfl rfl rfl rfl ⟨rfl, rfl, by decide, by decide⟩ hl.1 rfl (Nat.le_of_ble_eq_true rfl) ⟨Nat.zero_le _, Nat.zero_le _⟩ dX0_push_10 (fun H locs hP hD hS => ?_)
  obtain rfl := Option.some.inj h
  exact r_vret F hr hlk dX0_push_13 hsz hP hD hS
section G_X0_pushRow
abbrev ws_X0_pushRow (cI cJ cB : ClassId) (a0 a_tree a_tree_cells a_starts a_looses a_p1 a_p1_cells : Nat) (parts : Int32) (tree_rows : Int32) (tree_cells : Nat → Int32) (tree_cells_n : Nat) (starts : Nat → Int32) (looses : Nat → Int32) (p1_rows : Int32) (p1_cells : Nat → Int32) (p1_cells_n : Nat) : va_W := [(a0, .inr (2, [.ref a_tree, .ref a_starts, .ref a_looses, .int parts])), (a_tree, .inr (7, [.ref a_tree_cells, .int tree_rows])), (a_tree_cells, .inl (cI, tree_cells_n, .inl tree_cells)), (a_starts, .inl (cI, 402, .inl starts)), (a_looses, .inl (cI, 402, .inl looses)), (a_p1, .inr (7, [.ref a_p1_cells, .int p1_rows])), (a_p1_cells, .inl (cI, p1_cells_n, .inl p1_cells))]
abbrev rm_X0_pushRow : Room := { frames := 2, cells := 0, slots := 0, locals := 64 }
def f_X0_pushRow_29 (K5 : Int32 → Int32 → (Nat → Int32) → Nat → (Nat → Int32) → (Nat → Int32) → Int32 → (Nat → Int32) → Nat → Int32 → Int32 → Int32 → Option ((Int32) × (Int32) × (Nat → Int32) × (Nat → Int32) × (Nat → Int32))) (N : Nat) (parts : Int32) (tree_rows : Int32) (tree_cells : Nat → Int32) (tree_cells_n : Nat) (starts : Nat → Int32) (looses : Nat → Int32) (p1_rows : Int32) (p1_cells : Nat → Int32) (p1_cells_n : Nat) (y2 : Int32) (y3 : Int32) (y4 : Int32) : Option ((Int32) × (Int32) × (Nat → Int32) × (Nat → Int32) × (Nat → Int32)) := K5 parts tree_rows tree_cells tree_cells_n starts looses p1_rows p1_cells p1_cells_n y2 y3 (y4 + 1)
def f_X0_pushRow_5 (N : Nat) : Nat → Int32 → Int32 → (Nat → Int32) → Nat → (Nat → Int32) → (Nat → Int32) → Int32 → (Nat → Int32) → Nat → Int32 → Int32 → Int32 → Option ((Int32) × (Int32) × (Nat → Int32) × (Nat → Int32) × (Nat → Int32))
  | 0 => fun _ _ _ _ _ _ _ _ _ _ _ _ => none
  | n + 1 => fun parts tree_rows tree_cells tree_cells_n starts looses p1_rows p1_cells p1_cells_n y2 y3 y4 => ifb (8 ≤ y4) ((f_X0_open N parts tree_rows starts looses y3).bind (fun z37 => (f_X5_append N tree_rows tree_cells tree_cells_n p1_rows p1_cells p1_cells_n y2 (y2 + 1)).bind (fun z49 => some (z37.1, z49.1, z49.2, z37.2.1, z37.2.2)))) ((f_X5_number N p1_rows p1_cells p1_cells_n y2 y4).bind (fun z16 => ifb (z16 = 0) (f_X0_pushRow_29 (f_X0_pushRow_5 N n) N parts tree_rows tree_cells tree_cells_n starts looses p1_rows p1_cells p1_cells_n y2 y3 y4) (f_X0_pushRow_29 (f_X0_pushRow_5 N n) N parts tree_rows tree_cells tree_cells_n starts looses p1_rows p1_cells p1_cells_n y2 (y3 ||| (1 <<< (y4 &&& 31))) y4)))
def f_X0_pushRow (N : Nat) (parts : Int32) (tree_rows : Int32) (tree_cells : Nat → Int32) (tree_cells_n : Nat) (starts : Nat → Int32) (looses : Nat → Int32) (p1_rows : Int32) (p1_cells : Nat → Int32) (p1_cells_n : Nat) (x2 : Int32) : Option ((Int32) × (Int32) × (Nat → Int32) × (Nat → Int32) × (Nat → Int32)) := f_X0_pushRow_5 N N parts tree_rows tree_cells tree_cells_n starts looses p1_rows p1_cells p1_cells_n x2 0 0
variable {p : Program} {l : Launch} {e : Env} {s : State} {m : MethodId} {below : List Frame} {meth : Method} {c : Code} {args : Array Value} {x0 : Cond} {D : va_G} {cI cJ cB : ClassId} {sz N : Nat} {ws0 : va_W} {a0 a_tree a_tree_cells a_starts a_looses a_p1 a_p1_cells : Nat} {tree_cells_n : Nat} {p1_rows : Int32} {p1_cells : Nat → Int32} {p1_cells_n : Nat} {z : (Int32) × (Int32) × (Nat → Int32) × (Nat → Int32) × (Nat → Int32)}
set_option maxHeartbeats 4000000 in
set_option maxRecDepth 100000 in
theorem w_X0_pushRow_29 (CX : Cx p m c cX0_pushRow 5 s args x0 RX0 meth none) (hK : va_K D vwCl (ty0 cI cJ cB) s) (hsz : s.heap.size = sz) {K5 : Int32 → Int32 → (Nat → Int32) → Nat → (Nat → Int32) → (Nat → Int32) → Int32 → (Nat → Int32) → Nat → Int32 → Int32 → Int32 → Option ((Int32) × (Int32) × (Nat → Int32) × (Nat → Int32) × (Nat → Int32))} (hK5 : ∀ (parts : Int32) (tree_rows : Int32) (tree_cells : Nat → Int32) (starts : Nat → Int32) (looses : Nat → Int32) (y2 : Int32) (y3 : Int32) (y4 : Int32) (H : Heap) (locs : List Loc) (ls : Array Slot), K5 parts tree_rows tree_cells tree_cells_n starts looses p1_rows p1_cells p1_cells_n y2 y3 y4 = some z → va_P D vwCl (ws_X0_pushRow cI cJ cB a0 a_tree a_tree_cells a_starts a_looses a_p1 a_p1_cells parts tree_rows tree_cells tree_cells_n starts looses p1_rows p1_cells p1_cells_n) H → va_D (va_A ws0 sz) (ws_X0_pushRow cI cJ cB a0 a_tree a_tree_cells a_starts a_looses a_p1 a_p1_cells parts tree_rows tree_cells tree_cells_n starts looses p1_rows p1_cells p1_cells_n) → va_S (va_A ws0 sz) s.heap H locs → lv_has ls 5 [(0, .ref a0), (1, .ref a_p1), (2, .int y2), (3, .int y3), (4, .int y4)] → W p l e rm_X0_pushRow s m args below meth c H locs 0 0 (MQ below (gQ D sz ws0 (ws_X0_pushRow cI cJ cB a0 a_tree a_tree_cells a_starts a_looses a_p1 a_p1_cells z.1 z.2.1 z.2.2.1 tree_cells_n z.2.2.2.1 z.2.2.2.2 p1_rows p1_cells p1_cells_n) none) args s 0 0 (va_A ws0 sz)) (F0 m 5 ls [])) : ∀ (parts : Int32) (tree_rows : Int32) (tree_cells : Nat → Int32) (starts : Nat → Int32) (looses : Nat → Int32) (y2 : Int32) (y3 : Int32) (y4 : Int32) (H : Heap) (locs : List Loc) (ls : Array Slot), f_X0_pushRow_29 K5 N parts tree_rows tree_cells tree_cells_n starts looses p1_rows p1_cells p1_cells_n y2 y3 y4 = some z → va_P D vwCl (ws_X0_pushRow cI cJ cB a0 a_tree a_tree_cells a_starts a_looses a_p1 a_p1_cells parts tree_rows tree_cells tree_cells_n starts looses p1_rows p1_cells p1_cells_n) H → va_D (va_A ws0 sz) (ws_X0_pushRow cI cJ cB a0 a_tree a_tree_cells a_starts a_looses a_p1 a_p1_cells parts tree_rows tree_cells tree_cells_n starts looses p1_rows p1_cells p1_cells_n) → va_S (va_A ws0 sz) s.heap H locs → lv_has ls 5 [(0, .ref a0), (1, .ref a_p1), (2, .int y2), (3, .int y3), (4, .int y4)] → W p l e rm_X0_pushRow s m args below meth c H locs 0 0 (MQ below (gQ D sz ws0 (ws_X0_pushRow cI cJ cB a0 a_tree a_tree_cells a_starts a_looses a_p1 a_p1_cells z.1 z.2.1 z.2.2.1 tree_cells_n z.2.2.2.1 z.2.2.2.2 p1_rows p1_cells p1_cells_n) none) args s 0 0 (va_A ws0 sz)) (F0 m 29 ls []) := by
  obtain ⟨F, hr, hlk, hNw⟩ := id CX
  have hx := F.1
  have hb := F.2.1
  have hown := F.2.2.2.1
  have hA : ∀ q, s.heap.size ≤ q → va_A ws0 sz q := fun q hq => Or.inr (hsz ▸ hq)
  intro parts tree_rows tree_cells starts looses y2 y3 y4 H locs ls h hP hD hS hl
  unfold f_X0_pushRow_29 at h
  refine lv_iinc (v := y4 + 1) (lv' := [(4, .int (y4 + 1)), (0, .ref a0), (1, .ref a_p1), (2, .int y2), (3, .int y3)]) hx hb dX0_pushRow_29 hl (k := 4) rfl rfl (by decide) rfl (fun ls hl => ?_)
  refine lv_goto (tgt := 5) hx hb dX0_pushRow_32 (by decide) ?_
  exact hK5 parts tree_rows tree_cells starts looses y2 y3 (y4 + 1) _ _ _ h hP hD hS (lv_sub hl [1, 2, 3, 4, 0] rfl)
set_option maxHeartbeats 4000000 in
set_option maxRecDepth 100000 in
theorem w_X0_pushRow_5 (CX : Cx p m c cX0_pushRow 5 s args x0 RX0 meth none) (hK : va_K D vwCl (ty0 cI cJ cB) s) (hsz : s.heap.size = sz) : ∀ (n : Nat), ∀ (parts : Int32) (tree_rows : Int32) (tree_cells : Nat → Int32) (starts : Nat → Int32) (looses : Nat → Int32) (y2 : Int32) (y3 : Int32) (y4 : Int32) (H : Heap) (locs : List Loc) (ls : Array Slot), f_X0_pushRow_5 N n parts tree_rows tree_cells tree_cells_n starts looses p1_rows p1_cells p1_cells_n y2 y3 y4 = some z → va_P D vwCl (ws_X0_pushRow cI cJ cB a0 a_tree a_tree_cells a_starts a_looses a_p1 a_p1_cells parts tree_rows tree_cells tree_cells_n starts looses p1_rows p1_cells p1_cells_n) H → va_D (va_A ws0 sz) (ws_X0_pushRow cI cJ cB a0 a_tree a_tree_cells a_starts a_looses a_p1 a_p1_cells parts tree_rows tree_cells tree_cells_n starts looses p1_rows p1_cells p1_cells_n) → va_S (va_A ws0 sz) s.heap H locs → lv_has ls 5 [(0, .ref a0), (1, .ref a_p1), (2, .int y2), (3, .int y3), (4, .int y4)] → W p l e rm_X0_pushRow s m args below meth c H locs 0 0 (MQ below (gQ D sz ws0 (ws_X0_pushRow cI cJ cB a0 a_tree a_tree_cells a_starts a_looses a_p1 a_p1_cells z.1 z.2.1 z.2.2.1 tree_cells_n z.2.2.2.1 z.2.2.2.2 p1_rows p1_cells p1_cells_n) none) args s 0 0 (va_A ws0 sz)) (F0 m 5 ls []) := by
  obtain ⟨F, hr, hlk, hNw⟩ := id CX
  have hx := F.1
  have hb := F.2.1
  have hown := F.2.2.2.1
  have hA : ∀ q, s.heap.size ≤ q → va_A ws0 sz q := fun q hq => Or.inr (hsz ▸ hq)
  intro n
  induction n with
  | zero =>
    intro parts tree_rows tree_cells starts looses y2 y3 y4 H locs ls h
    cases h
  | succ n ih =>
    intro parts tree_rows tree_cells starts looses y2 y3 y4 H locs ls h hP hD hS hl
    unfold f_X0_pushRow_5 at h
    refine lv_iload hx hb dX0_pushRow_5 (lv_at hl 4 rfl) ?_
    refine lv_bipush (v := 8) hx hb dX0_pushRow_7 (by decide) ?_
    refine lv_icmp_ge (tgt := 35) hx hb dX0_pushRow_9 (by decide) (fun c9 => ?_) (fun c9 => ?_)
    · have h := o_t c9 h
      refine lv_aload_n hx hb dX0_pushRow_35 rfl (lv_at hl 0 rfl) ?_
      refine lv_iload_n hx hb dX0_pushRow_36 rfl (lv_at hl 3 rfl) ?_
      obtain ⟨z37, hz37, h⟩ := o_b h
      refine k_v (wn := (ws_X0_pushRow cI cJ cB a0 a_tree a_tree_cells a_starts a_looses a_p1 a_p1_cells z37.1 tree_rows tree_cells tree_cells_n z37.2.1 z37.2.2 p1_rows p1_cells p1_cells_n)) (As := [.int y3]) (rest := []) F hNw hK hP hD hS hA (c_X0_open l D cI cJ cB a0 a_tree a_tree_cells a_starts a_looses _ parts tree_rows starts looses y3 N hz37) wm_665 cv_X0_open [0, 1, 3, 4] [2, 5, 6] [3, 4, 0, 5, 6, 1, 2] (⟨rfl, rfl, rfl, by decide, rfl⟩ : Ix [0, 1, 3, 4] [2, 5, 6] [3, 4, 0, 5, 6, 1, 2] 7) rfl rfl rfl rfl rfl rfl ⟨rfl, rfl, by decide, by decide⟩ hl.1 rfl (Nat.le_of_ble_eq_true rfl) ⟨Nat.zero_le _, Nat.zero_le _⟩ dX0_pushRow_37 (fun H locs hP hD hS => ?_)
      refine lv_aload_n hx hb dX0_pushRow_40 rfl (lv_at hl 0 rfl) ?_
      refine r_get F hK hP 0 0 rfl inW_X0 wm_138 rfl (by decide) rfl dX0_pushRow_41 ?_
      refine lv_aload_n hx hb dX0_pushRow_44 rfl (lv_at hl 1 rfl) ?_
      refine lv_iload_n hx hb dX0_pushRow_45 rfl (lv_at hl 2 rfl) ?_
      refine lv_iload_n hx hb dX0_pushRow_46 rfl (lv_at hl 2 rfl) ?_
      refine lv_iconst (v := 1) hx hb dX0_pushRow_47 (by decide) ?_
      refine lv_iadd hx hb dX0_pushRow_48 ?_
      obtain ⟨z49, hz49, h⟩ := o_b h
      refine k_v (wn := (ws_X0_pushRow cI cJ cB a0 a_tree a_tree_cells a_starts a_looses a_p1 a_p1_cells z37.1 z49.1 z49.2 tree_cells_n z37.2.1 z37.2.2 p1_rows p1_cells p1_cells_n)) (As := [.ref a_p1, .int y2, .int (y2 + 1)]) (rest := []) F hNw hK hP hD hS hA (c_X5_append l D cI cJ cB a_tree a_tree_cells a_p1 a_p1_cells _ tree_rows tree_cells tree_cells_n p1_rows p1_cells p1_cells_n y2 (y2 + 1) N hz49) wm_853 cv_X5_append [1, 2, 5, 6] [0, 3, 4] [0, 3, 4, 1, 2, 5, 6] (⟨rfl, rfl, rfl, by decide, rfl⟩ : Ix [1, 2, 5, 6] [0, 3, 4] [0, 3, 4, 1, 2, 5, 6] 7) rfl rfl rfl rfl rfl rfl ⟨rfl, rfl, by decide, by decide⟩ hl.1 rfl (Nat.le_of_ble_eq_true rfl) ⟨Nat.zero_le _, Nat.zero_le _⟩ dX0_pushRow_49 (fun H locs hP hD hS => ?_)
      obtain rfl := Option.some.inj h
      exact r_vret F hr hlk dX0_pushRow_52 hsz hP hD hS
    · have h := o_f c9 h
      refine lv_aload_n hx hb dX0_pushRow_12 rfl (lv_at hl 1 rfl) ?_
      refine lv_iload_n hx hb dX0_pushRow_13 rfl (lv_at hl 2 rfl) ?_
      refine lv_iload hx hb dX0_pushRow_14 (lv_at hl 4 rfl) ?_
      obtain ⟨z16, hz16, h⟩ := o_b h
      refine k_v (wn := (ws_X0_pushRow cI cJ cB a0 a_tree a_tree_cells a_starts a_looses a_p1 a_p1_cells parts tree_rows tree_cells tree_cells_n starts looses p1_rows p1_cells p1_cells_n)) (As := [.int y2, .int y4]) (rest := []) F hNw hK hP hD hS hA (c_X5_number l D cI cJ cB a_p1 a_p1_cells _ p1_rows p1_cells p1_cells_n y2 y4 N hz16) wm_849 cv_X5_number [5, 6] [0, 1, 2, 3, 4] [0, 1, 2, 3, 4, 5, 6] (⟨rfl, rfl, rfl, by decide, rfl⟩ : Ix [5, 6] [0, 1, 2, 3, 4] [0, 1, 2, 3, 4, 5, 6] 7) rfl rfl rfl rfl rfl rfl ⟨rfl, rfl, by decide, by decide⟩ hl.1 rfl (Nat.le_of_ble_eq_true rfl) ⟨Nat.zero_le _, Nat.zero_le _⟩ dX0_pushRow_16 (fun H locs hP hD hS => ?_)
      refine lv_if_eq (tgt := 29) hx hb dX0_pushRow_19 (by decide) (fun c19 => ?_) (fun c19 => ?_)
      · have h := o_t c19 h
        exact w_X0_pushRow_29 CX hK hsz (hK5 := ih) parts tree_rows tree_cells starts looses y2 y3 y4 _ _ _ h hP hD hS (lv_sub hl [0, 1, 2, 3, 4] rfl)
      · have h := o_f c19 h
        refine lv_iload_n hx hb dX0_pushRow_22 rfl (lv_at hl 3 rfl) ?_
        refine lv_iconst (v := 1) hx hb dX0_pushRow_23 (by decide) ?_
        refine lv_iload hx hb dX0_pushRow_24 (lv_at hl 4 rfl) ?_
        refine lv_ishl hx hb dX0_pushRow_26 ?_
        refine lv_ior hx hb dX0_pushRow_27 ?_
        refine lv_istore_n (lv' := [(3, .int (y3 ||| (1 <<< (y4 &&& 31)))), (0, .ref a0), (1, .ref a_p1), (2, .int y2), (4, .int y4)]) hx hb dX0_pushRow_28 rfl hl (by decide) rfl (fun ls hl => ?_)
        exact w_X0_pushRow_29 CX hK hsz (hK5 := ih) parts tree_rows tree_cells starts looses y2 (y3 ||| (1 <<< (y4 &&& 31))) y4 _ _ _ h hP hD hS (lv_sub hl [1, 2, 3, 0, 4] rfl)
end G_X0_pushRow
set_option maxHeartbeats 4000000 in
set_option maxRecDepth 100000 in
theorem c_X0_pushRow (l : Launch) (D : va_G) (cI cJ cB : ClassId) (a0 a_tree a_tree_cells a_starts a_looses a_p1 a_p1_cells : Nat) (sz : Nat) (parts : Int32) (tree_rows : Int32) (tree_cells : Nat → Int32) (tree_cells_n : Nat) (starts : Nat → Int32) (looses : Nat → Int32) (p1_rows : Int32) (p1_cells : Nat → Int32) (p1_cells_n : Nat) (x2 : Int32) (N : Nat) {z : (Int32) × (Int32) × (Nat → Int32) × (Nat → Int32) × (Nat → Int32)} (h : f_X0_pushRow N parts tree_rows tree_cells tree_cells_n starts looses p1_rows p1_cells p1_cells_n x2 = some z) : Mg l yX0_pushRow cX0_pushRow 5 none rm_X0_pushRow D (ty0 cI cJ cB) [.ref a0, .ref a_p1, .int x2] sz (ws_X0_pushRow cI cJ cB a0 a_tree a_tree_cells a_starts a_looses a_p1 a_p1_cells parts tree_rows tree_cells tree_cells_n starts looses p1_rows p1_cells p1_cells_n) none (ws_X0_pushRow cI cJ cB a0 a_tree a_tree_cells a_starts a_looses a_p1 a_p1_cells z.1 z.2.1 z.2.2.1 tree_cells_n z.2.2.2.1 z.2.2.2.2 p1_rows p1_cells p1_cells_n) := by
  refine Mg.of (by decide) (Nat.le_of_ble_eq_true rfl) ?_
  intro p e s m below meth c CX hK hsz hP hD ls hl
  have CX : Cx p m c cX0_pushRow 5 s ([.ref a0, .ref a_p1, .int x2] : List Value).toArray (Cond.code yX0_pushRow cX0_pushRow 5 none) RX0 meth none := CX
  obtain ⟨F, hr, hlk, hNw⟩ := id CX
  have hx := F.1
  have hb := F.2.1
  have hown := F.2.2.2.1
  have hl : lv_has ls 5 [(0, .ref a0), (1, .ref a_p1), (2, .int x2)] := hl
  have hS : va_S (va_A (ws_X0_pushRow cI cJ cB a0 a_tree a_tree_cells a_starts a_looses a_p1 a_p1_cells parts tree_rows tree_cells tree_cells_n starts looses p1_rows p1_cells p1_cells_n) sz) s.heap s.heap [] := va_S.rf
  have hA : ∀ q, s.heap.size ≤ q → va_A (ws_X0_pushRow cI cJ cB a0 a_tree a_tree_cells a_starts a_looses a_p1 a_p1_cells parts tree_rows tree_cells tree_cells_n starts looses p1_rows p1_cells p1_cells_n) sz q := fun q hq => Or.inr (hsz ▸ hq)
  unfold f_X0_pushRow at h
  refine lv_iconst (v := 0) hx hb dX0_pushRow_0 (by decide) ?_
  refine lv_istore_n (lv' := [(3, .int 0), (0, .ref a0), (1, .ref a_p1), (2, .int x2)]) hx hb dX0_pushRow_1 rfl hl (by decide) rfl (fun ls hl => ?_)
  refine lv_iconst (v := 0) hx hb dX0_pushRow_2 (by decide) ?_
  refine lv_istore (lv' := [(4, .int 0), (3, .int 0), (0, .ref a0), (1, .ref a_p1), (2, .int x2)]) hx hb dX0_pushRow_3 hl (by decide) rfl (fun ls hl => ?_)
  exact w_X0_pushRow_5 CX hK hsz N parts tree_rows tree_cells starts looses x2 0 0 _ _ _ h hP hD hS (lv_sub hl [2, 3, 4, 1, 0] rfl)
section G_X0_pushSettled
abbrev ws_X0_pushSettled (cI cJ cB : ClassId) (a0 a_tree a_tree_cells a_starts a_looses a_p1 a_p1_numbers : Nat) (parts : Int32) (tree_rows : Int32) (tree_cells : Nat → Int32) (tree_cells_n : Nat) (starts : Nat → Int32) (looses : Nat → Int32) (p1_numbers : Nat → Int64) : va_W := [(a0, .inr (2, [.ref a_tree, .ref a_starts, .ref a_looses, .int parts])), (a_tree, .inr (7, [.ref a_tree_cells, .int tree_rows])), (a_tree_cells, .inl (cI, tree_cells_n, .inl tree_cells)), (a_starts, .inl (cI, 402, .inl starts)), (a_looses, .inl (cI, 402, .inl looses)), (a_p1, .inr (6, [.ref a_p1_numbers])), (a_p1_numbers, .inl (cJ, 9, .inr (.inl p1_numbers)))]
abbrev rm_X0_pushSettled : Room := { frames := 3, cells := 0, slots := 0, locals := 68 }
def f_X0_pushSettled_81 (N : Nat) (parts : Int32) (tree_rows : Int32) (tree_cells : Nat → Int32) (tree_cells_n : Nat) (starts : Nat → Int32) (looses : Nat → Int32) (p1_numbers : Nat → Int64) : Option ((Int32) × (Int32) × (Nat → Int32) × (Nat → Int32) × (Nat → Int32)) := some (parts, tree_rows, tree_cells, starts, looses)
def f_X0_pushSettled_38 (N : Nat) : Nat → Int32 → Int32 → (Nat → Int32) → Nat → (Nat → Int32) → (Nat → Int32) → (Nat → Int64) → Int32 → Int32 → Option ((Int32) × (Int32) × (Nat → Int32) × (Nat → Int32) × (Nat → Int32))
  | 0 => fun _ _ _ _ _ _ _ _ _ => none
  | n + 1 => fun parts tree_rows tree_cells tree_cells_n starts looses p1_numbers y3 y4 => ifb (y3 = 0) (f_X0_pushSettled_81 N parts tree_rows tree_cells tree_cells_n starts looses p1_numbers) (ifb (9 ≤ y4) (f_X0_pushSettled_81 N parts tree_rows tree_cells tree_cells_n starts looses p1_numbers) (ix y4 9 ((f_X5_setNumber N tree_rows tree_cells tree_cells_n (tree_rows - 1) y4 ((p1_numbers y4.toNatClampNeg).toInt32)).bind (fun z72 => f_X0_pushSettled_38 N n parts tree_rows z72 tree_cells_n starts looses p1_numbers y3 (y4 + 1)))))
def f_X0_pushSettled_24 (N : Nat) (parts : Int32) (tree_rows : Int32) (tree_cells : Nat → Int32) (tree_cells_n : Nat) (starts : Nat → Int32) (looses : Nat → Int32) (p1_numbers : Nat → Int64) (y2 : Int32) (y3 : Int32) (s1 : Int32) : Option ((Int32) × (Int32) × (Nat → Int32) × (Nat → Int32) × (Nat → Int32)) := (f_X0_open N parts tree_rows starts looses s1).bind (fun z24 => (f_X5_add N tree_rows tree_cells tree_cells_n y2).bind (fun z32 => f_X0_pushSettled_38 N N z24.1 z32.1 z32.2 tree_cells_n z24.2.1 z24.2.2 p1_numbers y3 0))
def f_X0_pushSettled_10 (N : Nat) (parts : Int32) (tree_rows : Int32) (tree_cells : Nat → Int32) (tree_cells_n : Nat) (starts : Nat → Int32) (looses : Nat → Int32) (p1_numbers : Nat → Int64) (y2 : Int32) (s0 : Int32) : Option ((Int32) × (Int32) × (Nat → Int32) × (Nat → Int32) × (Nat → Int32)) := ifb (s0 = 0) (f_X0_pushSettled_24 N parts tree_rows tree_cells tree_cells_n starts looses p1_numbers y2 s0 0) ((f_X4_bits N p1_numbers).bind (fun z17 => f_X0_pushSettled_24 N parts tree_rows tree_cells tree_cells_n starts looses p1_numbers y2 s0 z17))
def f_X0_pushSettled (N : Nat) (parts : Int32) (tree_rows : Int32) (tree_cells : Nat → Int32) (tree_cells_n : Nat) (starts : Nat → Int32) (looses : Nat → Int32) (p1_numbers : Nat → Int64) (x2 : Int32) : Option ((Int32) × (Int32) × (Nat → Int32) × (Nat → Int32) × (Nat → Int32)) := ifb (x2 < 2) (f_X0_pushSettled_10 N parts tree_rows tree_cells tree_cells_n starts looses p1_numbers x2 0) (f_X0_pushSettled_10 N parts tree_rows tree_cells tree_cells_n starts looses p1_numbers x2 1)
variable {p : Program} {l : Launch} {e : Env} {s : State} {m : MethodId} {below : List Frame} {meth : Method} {c : Code} {args : Array Value} {x0 : Cond} {D : va_G} {cI cJ cB : ClassId} {sz N : Nat} {ws0 : va_W} {a0 a_tree a_tree_cells a_starts a_looses a_p1 a_p1_numbers : Nat} {tree_cells_n : Nat} {p1_numbers : Nat → Int64} {z : (Int32) × (Int32) × (Nat → Int32) × (Nat → Int32) × (Nat → Int32)}
set_option maxHeartbeats 4000000 in
set_option maxRecDepth 100000 in
theorem w_X0_pushSettled_81 (CX : Cx p m c cX0_pushSettled 5 s args x0 RX0 meth none) (hK : va_K D vwCl (ty0 cI cJ cB) s) (hsz : s.heap.size = sz) : ∀ (parts : Int32) (tree_rows : Int32) (tree_cells : Nat → Int32) (starts : Nat → Int32) (looses : Nat → Int32) (H : Heap) (locs : List Loc) (ls : Array Slot), f_X0_pushSettled_81 N parts tree_rows tree_cells tree_cells_n starts looses p1_numbers = some z → va_P D vwCl (ws_X0_pushSettled cI cJ cB a0 a_tree a_tree_cells a_starts a_looses a_p1 a_p1_numbers parts tree_rows tree_cells tree_cells_n starts looses p1_numbers) H → va_D (va_A ws0 sz) (ws_X0_pushSettled cI cJ cB a0 a_tree a_tree_cells a_starts a_looses a_p1 a_p1_numbers parts tree_rows tree_cells tree_cells_n starts looses p1_numbers) → va_S (va_A ws0 sz) s.heap H locs → lv_has ls 5 [] → W p l e rm_X0_pushSettled s m args below meth c H locs 0 0 (MQ below (gQ D sz ws0 (ws_X0_pushSettled cI cJ cB a0 a_tree a_tree_cells a_starts a_looses a_p1 a_p1_numbers z.1 z.2.1 z.2.2.1 tree_cells_n z.2.2.2.1 z.2.2.2.2 p1_numbers) none) args s 0 0 (va_A ws0 sz)) (F0 m 81 ls []) := by
  obtain ⟨F, hr, hlk, hNw⟩ := id CX
  have hx := F.1
  have hb := F.2.1
  have hown := F.2.2.2.1
  have hA : ∀ q, s.heap.size ≤ q → va_A ws0 sz q := fun q hq => Or.inr (hsz ▸ hq)
  intro parts tree_rows tree_cells starts looses H locs ls h hP hD hS hl
  unfold f_X0_pushSettled_81 at h
  obtain rfl := Option.some.inj h
  exact r_vret F hr hlk dX0_pushSettled_81 hsz hP hD hS
set_option maxHeartbeats 4000000 in
set_option maxRecDepth 100000 in
theorem w_X0_pushSettled_38 (CX : Cx p m c cX0_pushSettled 5 s args x0 RX0 meth none) (hK : va_K D vwCl (ty0 cI cJ cB) s) (hsz : s.heap.size = sz) : ∀ (n : Nat), ∀ (parts : Int32) (tree_rows : Int32) (tree_cells : Nat → Int32) (starts : Nat → Int32) (looses : Nat → Int32) (y3 : Int32) (y4 : Int32) (H : Heap) (locs : List Loc) (ls : Array Slot), f_X0_pushSettled_38 N n parts tree_rows tree_cells tree_cells_n starts looses p1_numbers y3 y4 = some z → va_P D vwCl (ws_X0_pushSettled cI cJ cB a0 a_tree a_tree_cells a_starts a_looses a_p1 a_p1_numbers parts tree_rows tree_cells tree_cells_n starts looses p1_numbers) H → va_D (va_A ws0 sz) (ws_X0_pushSettled cI cJ cB a0 a_tree a_tree_cells a_starts a_looses a_p1 a_p1_numbers parts tree_rows tree_cells tree_cells_n starts looses p1_numbers) → va_S (va_A ws0 sz) s.heap H locs → lv_has ls 5 [(0, .ref a0), (1, .ref a_p1), (3, .int y3), (4, .int y4)] → W p l e rm_X0_pushSettled s m args below meth c H locs 0 0 (MQ below (gQ D sz ws0 (ws_X0_pushSettled cI cJ cB a0 a_tree a_tree_cells a_starts a_looses a_p1 a_p1_numbers z.1 z.2.1 z.2.2.1 tree_cells_n z.2.2.2.1 z.2.2.2.2 p1_numbers) none) args s 0 0 (va_A ws0 sz)) (F0 m 38 ls []) := by
  obtain ⟨F, hr, hlk, hNw⟩ := id CX
  have hx := F.1
  have hb := F.2.1
  have hown := F.2.2.2.1
  have hA : ∀ q, s.heap.size ≤ q → va_A ws0 sz q := fun q hq => Or.inr (hsz ▸ hq)
  intro n
  induction n with
  | zero =>
    intro parts tree_rows tree_cells starts looses y3 y4 H locs ls h
    cases h
  | succ n ih =>
    intro parts tree_rows tree_cells starts looses y3 y4 H locs ls h hP hD hS hl
    unfold f_X0_pushSettled_38 at h
    refine lv_iload_n hx hb dX0_pushSettled_38 rfl (lv_at hl 2 rfl) ?_
    refine lv_if_eq (tgt := 81) hx hb dX0_pushSettled_39 (by decide) (fun c39 => ?_) (fun c39 => ?_)
    · have h := o_t c39 h
      exact w_X0_pushSettled_81 CX hK hsz parts tree_rows tree_cells starts looses _ _ _ h hP hD hS (lv_sub hl [] rfl)
    · have h := o_f c39 h
      refine lv_iload hx hb dX0_pushSettled_42 (lv_at hl 3 rfl) ?_
      refine lv_bipush (v := 9) hx hb dX0_pushSettled_44 (by decide) ?_
      refine lv_icmp_ge (tgt := 81) hx hb dX0_pushSettled_46 (by decide) (fun c46 => ?_) (fun c46 => ?_)
      · have h := o_t c46 h
        exact w_X0_pushSettled_81 CX hK hsz parts tree_rows tree_cells starts looses _ _ _ h hP hD hS (lv_sub hl [] rfl)
      · have h := o_f c46 h
        refine lv_aload_n hx hb dX0_pushSettled_49 rfl (lv_at hl 0 rfl) ?_
        refine r_get F hK hP 0 0 rfl inW_X0 wm_138 rfl (by decide) rfl dX0_pushSettled_50 ?_
        refine lv_aload_n hx hb dX0_pushSettled_53 rfl (lv_at hl 0 rfl) ?_
        refine r_get F hK hP 0 0 rfl inW_X0 wm_138 rfl (by decide) rfl dX0_pushSettled_54 ?_
        refine r_getN F hNw hK hP 1 1 rfl inW_X5 nf_X0_54 rfl (by decide) rfl dX0_pushSettled_57 ?_
        refine lv_iconst (v := 1) hx hb dX0_pushSettled_60 (by decide) ?_
        refine lv_isub hx hb dX0_pushSettled_61 ?_
        refine lv_iload hx hb dX0_pushSettled_62 (lv_at hl 3 rfl) ?_
        refine lv_aload_n hx hb dX0_pushSettled_64 rfl (lv_at hl 1 rfl) ?_
        refine r_getN F hNw hK hP 5 0 rfl inW_X4 nf_X0_57 rfl (by decide) rfl dX0_pushSettled_65 ?_
        refine lv_iload hx hb dX0_pushSettled_68 (lv_at hl 3 rfl) ?_
        obtain ⟨hi70, h⟩ := o_ix h
        refine va_lald hx hb hK hP 6 1 rfl rfl hi70 dX0_pushSettled_70 ?_
        refine lv_l2i hx hb dX0_pushSettled_71 rfl ?_
        obtain ⟨z72, hz72, h⟩ := o_b h
        refine k_v (wn := (ws_X0_pushSettled cI cJ cB a0 a_tree a_tree_cells a_starts a_looses a_p1 a_p1_numbers parts tree_rows z72 tree_cells_n starts looses p1_numbers)) (As := [.int (tree_rows - 1), .int y4, .int ((p1_numbers y4.toNatClampNeg).toInt32)]) (rest := []) F hNw hK hP hD hS hA (c_X5_setNumber l D cI cJ cB a_tree a_tree_cells _ tree_rows tree_cells tree_cells_n (tree_rows - 1) y4 ((p1_numbers y4.toNatClampNeg).toInt32) N hz72) wm_737 cv_X5_setNumber [1, 2] [0, 3, 4, 5, 6] [0, 5, 6, 1, 2, 3, 4] (⟨rfl, rfl, rfl, by decide, rfl⟩ : Ix [1, 2] [0, 3, 4, 5, 6] [0, 5, 6, 1, 2, 3, 4] 7) rfl rfl rfl rfl rfl rfl ⟨rfl, rfl, by decide, by decide⟩ hl.1 rfl (Nat.le_of_ble_eq_true rfl) ⟨Nat.zero_le _, Nat.zero_le _⟩ dX0_pushSettled_72 (fun H locs hP hD hS => ?_)
        refine lv_iinc (v := y4 + 1) (lv' := [(4, .int (y4 + 1)), (0, .ref a0), (1, .ref a_p1), (3, .int y3)]) hx hb dX0_pushSettled_75 hl (k := 3) rfl rfl (by decide) rfl (fun ls hl => ?_)
        refine lv_goto (tgt := 38) hx hb dX0_pushSettled_78 (by decide) ?_
        exact ih parts tree_rows z72 starts looses y3 (y4 + 1) _ _ _ h hP hD hS (lv_sub hl [1, 2, 3, 0] rfl)
set_option maxHeartbeats 4000000 in
set_option maxRecDepth 100000 in
theorem w_X0_pushSettled_24 (CX : Cx p m c cX0_pushSettled 5 s args x0 RX0 meth none) (hK : va_K D vwCl (ty0 cI cJ cB) s) (hsz : s.heap.size = sz) : ∀ (parts : Int32) (tree_rows : Int32) (tree_cells : Nat → Int32) (starts : Nat → Int32) (looses : Nat → Int32) (y2 : Int32) (y3 : Int32) (s1 : Int32) (H : Heap) (locs : List Loc) (ls : Array Slot), f_X0_pushSettled_24 N parts tree_rows tree_cells tree_cells_n starts looses p1_numbers y2 y3 s1 = some z → va_P D vwCl (ws_X0_pushSettled cI cJ cB a0 a_tree a_tree_cells a_starts a_looses a_p1 a_p1_numbers parts tree_rows tree_cells tree_cells_n starts looses p1_numbers) H → va_D (va_A ws0 sz) (ws_X0_pushSettled cI cJ cB a0 a_tree a_tree_cells a_starts a_looses a_p1 a_p1_numbers parts tree_rows tree_cells tree_cells_n starts looses p1_numbers) → va_S (va_A ws0 sz) s.heap H locs → lv_has ls 5 [(0, .ref a0), (1, .ref a_p1), (2, .int y2), (3, .int y3)] → W p l e rm_X0_pushSettled s m args below meth c H locs 0 0 (MQ below (gQ D sz ws0 (ws_X0_pushSettled cI cJ cB a0 a_tree a_tree_cells a_starts a_looses a_p1 a_p1_numbers z.1 z.2.1 z.2.2.1 tree_cells_n z.2.2.2.1 z.2.2.2.2 p1_numbers) none) args s 0 0 (va_A ws0 sz)) (F0 m 24 ls [.int s1, .ref a0]) := by
  obtain ⟨F, hr, hlk, hNw⟩ := id CX
  have hx := F.1
  have hb := F.2.1
  have hown := F.2.2.2.1
  have hA : ∀ q, s.heap.size ≤ q → va_A ws0 sz q := fun q hq => Or.inr (hsz ▸ hq)
  intro parts tree_rows tree_cells starts looses y2 y3 s1 H locs ls h hP hD hS hl
  unfold f_X0_pushSettled_24 at h
  obtain ⟨z24, hz24, h⟩ := o_b h
  refine k_v (wn := (ws_X0_pushSettled cI cJ cB a0 a_tree a_tree_cells a_starts a_looses a_p1 a_p1_numbers z24.1 tree_rows tree_cells tree_cells_n z24.2.1 z24.2.2 p1_numbers)) (As := [.int s1]) (rest := []) F hNw hK hP hD hS hA (c_X0_open l D cI cJ cB a0 a_tree a_tree_cells a_starts a_looses _ parts tree_rows starts looses s1 N hz24) wm_665 cv_X0_open [0, 1, 3, 4] [2, 5, 6] [3, 4, 0, 5, 6, 1, 2] (⟨rfl, rfl, rfl, by decide, rfl⟩ : Ix [0, 1, 3, 4] [2, 5, 6] [3, 4, 0, 5, 6, 1, 2] 7) rfl rfl rfl rfl rfl rfl ⟨rfl, rfl, by decide, by decide⟩ hl.1 rfl (Nat.le_of_ble_eq_true rfl) ⟨Nat.zero_le _, Nat.zero_le _⟩ dX0_pushSettled_24 (fun H locs hP hD hS => ?_)
  refine lv_aload_n hx hb dX0_pushSettled_27 rfl (lv_at hl 0 rfl) ?_
  refine r_get F hK hP 0 0 rfl inW_X0 wm_138 rfl (by decide) rfl dX0_pushSettled_28 ?_
  refine lv_iload_n hx hb dX0_pushSettled_31 rfl (lv_at hl 2 rfl) ?_
  obtain ⟨z32, hz32, h⟩ := o_b h
  refine k_v (wn := (ws_X0_pushSettled cI cJ cB a0 a_tree a_tree_cells a_starts a_looses a_p1 a_p1_numbers z24.1 z32.1 z32.2 tree_cells_n z24.2.1 z24.2.2 p1_numbers)) (As := [.int y2]) (rest := []) F hNw hK hP hD hS hA (c_X5_add l D cI cJ cB a_tree a_tree_cells _ tree_rows tree_cells tree_cells_n y2 N hz32) wm_669 cv_X5_add [1, 2] [0, 3, 4, 5, 6] [0, 5, 6, 1, 2, 3, 4] (⟨rfl, rfl, rfl, by decide, rfl⟩ : Ix [1, 2] [0, 3, 4, 5, 6] [0, 5, 6, 1, 2, 3, 4] 7) rfl rfl rfl rfl rfl rfl ⟨rfl, rfl, by decide, by decide⟩ hl.1 rfl (Nat.le_of_ble_eq_true rfl) ⟨Nat.zero_le _, Nat.zero_le _⟩ dX0_pushSettled_32 (fun H locs hP hD hS => ?_)
  refine lv_iconst (v := 0) hx hb dX0_pushSettled_35 (by decide) ?_
  refine lv_istore (lv' := [(4, .int 0), (0, .ref a0), (1, .ref a_p1), (2, .int y2), (3, .int y3)]) hx hb dX0_pushSettled_36 hl (by decide) rfl (fun ls hl => ?_)
  exact w_X0_pushSettled_38 CX hK hsz N z24.1 z32.1 z32.2 z24.2.1 z24.2.2 y3 0 _ _ _ h hP hD hS (lv_sub hl [1, 2, 4, 0] rfl)
set_option maxHeartbeats 4000000 in
set_option maxRecDepth 100000 in
theorem w_X0_pushSettled_10 (CX : Cx p m c cX0_pushSettled 5 s args x0 RX0 meth none) (hK : va_K D vwCl (ty0 cI cJ cB) s) (hsz : s.heap.size = sz) : ∀ (parts : Int32) (tree_rows : Int32) (tree_cells : Nat → Int32) (starts : Nat → Int32) (looses : Nat → Int32) (y2 : Int32) (s0 : Int32) (H : Heap) (locs : List Loc) (ls : Array Slot), f_X0_pushSettled_10 N parts tree_rows tree_cells tree_cells_n starts looses p1_numbers y2 s0 = some z → va_P D vwCl (ws_X0_pushSettled cI cJ cB a0 a_tree a_tree_cells a_starts a_looses a_p1 a_p1_numbers parts tree_rows tree_cells tree_cells_n starts looses p1_numbers) H → va_D (va_A ws0 sz) (ws_X0_pushSettled cI cJ cB a0 a_tree a_tree_cells a_starts a_looses a_p1 a_p1_numbers parts tree_rows tree_cells tree_cells_n starts looses p1_numbers) → va_S (va_A ws0 sz) s.heap H locs → lv_has ls 5 [(0, .ref a0), (1, .ref a_p1), (2, .int y2)] → W p l e rm_X0_pushSettled s m args below meth c H locs 0 0 (MQ below (gQ D sz ws0 (ws_X0_pushSettled cI cJ cB a0 a_tree a_tree_cells a_starts a_looses a_p1 a_p1_numbers z.1 z.2.1 z.2.2.1 tree_cells_n z.2.2.2.1 z.2.2.2.2 p1_numbers) none) args s 0 0 (va_A ws0 sz)) (F0 m 10 ls [.int s0]) := by
  obtain ⟨F, hr, hlk, hNw⟩ := id CX
  have hx := F.1
  have hb := F.2.1
  have hown := F.2.2.2.1
  have hA : ∀ q, s.heap.size ≤ q → va_A ws0 sz q := fun q hq => Or.inr (hsz ▸ hq)
  intro parts tree_rows tree_cells starts looses y2 s0 H locs ls h hP hD hS hl
  unfold f_X0_pushSettled_10 at h
  refine lv_istore_n (lv' := [(3, .int s0), (0, .ref a0), (1, .ref a_p1), (2, .int y2)]) hx hb dX0_pushSettled_10 rfl hl (by decide) rfl (fun ls hl => ?_)
  refine lv_aload_n hx hb dX0_pushSettled_11 rfl (lv_at hl 1 rfl) ?_
  refine lv_iload_n hx hb dX0_pushSettled_12 rfl (lv_at hl 0 rfl) ?_
  refine lv_if_eq (tgt := 23) hx hb dX0_pushSettled_13 (by decide) (fun c13 => ?_) (fun c13 => ?_)
  · have h := o_t c13 h
    refine lv_iconst (v := 0) hx hb dX0_pushSettled_23 (by decide) ?_
    exact w_X0_pushSettled_24 CX hK hsz parts tree_rows tree_cells starts looses y2 s0 0 _ _ _ h hP hD hS (lv_sub hl [1, 2, 3, 0] rfl)
  · have h := o_f c13 h
    refine lv_aload_n hx hb dX0_pushSettled_16 rfl (lv_at hl 2 rfl) ?_
    obtain ⟨z17, hz17, h⟩ := o_b h
    refine k_v (wn := (ws_X0_pushSettled cI cJ cB a0 a_tree a_tree_cells a_starts a_looses a_p1 a_p1_numbers parts tree_rows tree_cells tree_cells_n starts looses p1_numbers)) (As := []) (rest := [.ref a0]) F hNw hK hP hD hS hA (c_X4_bits l D cI cJ cB a_p1 a_p1_numbers _ p1_numbers N hz17) wm_733 cv_X4_bits [5, 6] [0, 1, 2, 3, 4] [0, 1, 2, 3, 4, 5, 6] (⟨rfl, rfl, rfl, by decide, rfl⟩ : Ix [5, 6] [0, 1, 2, 3, 4] [0, 1, 2, 3, 4, 5, 6] 7) rfl rfl rfl rfl rfl rfl ⟨rfl, rfl, by decide, by decide⟩ hl.1 rfl (Nat.le_of_ble_eq_true rfl) ⟨Nat.zero_le _, Nat.zero_le _⟩ dX0_pushSettled_17 (fun H locs hP hD hS => ?_)
    refine lv_goto (tgt := 24) hx hb dX0_pushSettled_20 (by decide) ?_
    exact w_X0_pushSettled_24 CX hK hsz parts tree_rows tree_cells starts looses y2 s0 z17 _ _ _ h hP hD hS (lv_sub hl [1, 2, 3, 0] rfl)
end G_X0_pushSettled
set_option maxHeartbeats 4000000 in
set_option maxRecDepth 100000 in
theorem c_X0_pushSettled (l : Launch) (D : va_G) (cI cJ cB : ClassId) (a0 a_tree a_tree_cells a_starts a_looses a_p1 a_p1_numbers : Nat) (sz : Nat) (parts : Int32) (tree_rows : Int32) (tree_cells : Nat → Int32) (tree_cells_n : Nat) (starts : Nat → Int32) (looses : Nat → Int32) (p1_numbers : Nat → Int64) (x2 : Int32) (N : Nat) {z : (Int32) × (Int32) × (Nat → Int32) × (Nat → Int32) × (Nat → Int32)} (h : f_X0_pushSettled N parts tree_rows tree_cells tree_cells_n starts looses p1_numbers x2 = some z) : Mg l yX0_pushSettled cX0_pushSettled 5 none rm_X0_pushSettled D (ty0 cI cJ cB) [.ref a0, .ref a_p1, .int x2] sz (ws_X0_pushSettled cI cJ cB a0 a_tree a_tree_cells a_starts a_looses a_p1 a_p1_numbers parts tree_rows tree_cells tree_cells_n starts looses p1_numbers) none (ws_X0_pushSettled cI cJ cB a0 a_tree a_tree_cells a_starts a_looses a_p1 a_p1_numbers z.1 z.2.1 z.2.2.1 tree_cells_n z.2.2.2.1 z.2.2.2.2 p1_numbers) := by
  refine Mg.of (by decide) (Nat.le_of_ble_eq_true rfl) ?_
  intro p e s m below meth c CX hK hsz hP hD ls hl
  have CX : Cx p m c cX0_pushSettled 5 s ([.ref a0, .ref a_p1, .int x2] : List Value).toArray (Cond.code yX0_pushSettled cX0_pushSettled 5 none) RX0 meth none := CX
  obtain ⟨F, hr, hlk, hNw⟩ := id CX
  have hx := F.1
  have hb := F.2.1
  have hown := F.2.2.2.1
  have hl : lv_has ls 5 [(0, .ref a0), (1, .ref a_p1), (2, .int x2)] := hl
  have hS : va_S (va_A (ws_X0_pushSettled cI cJ cB a0 a_tree a_tree_cells a_starts a_looses a_p1 a_p1_numbers parts tree_rows tree_cells tree_cells_n starts looses p1_numbers) sz) s.heap s.heap [] := va_S.rf
  have hA : ∀ q, s.heap.size ≤ q → va_A (ws_X0_pushSettled cI cJ cB a0 a_tree a_tree_cells a_starts a_looses a_p1 a_p1_numbers parts tree_rows tree_cells tree_cells_n starts looses p1_numbers) sz q := fun q hq => Or.inr (hsz ▸ hq)
  unfold f_X0_pushSettled at h
  refine lv_iload_n hx hb dX0_pushSettled_0 rfl (lv_at hl 2 rfl) ?_
  refine lv_iconst (v := 2) hx hb dX0_pushSettled_1 (by decide) ?_
  refine lv_icmp_lt (tgt := 9) hx hb dX0_pushSettled_2 (by decide) (fun c2 => ?_) (fun c2 => ?_)
  · have h := o_t c2 h
    refine lv_iconst (v := 0) hx hb dX0_pushSettled_9 (by decide) ?_
    exact w_X0_pushSettled_10 CX hK hsz parts tree_rows tree_cells starts looses x2 0 _ _ _ h hP hD hS (lv_sub hl [0, 1, 2] rfl)
  · have h := o_f c2 h
    refine lv_iconst (v := 1) hx hb dX0_pushSettled_5 (by decide) ?_
    refine lv_goto (tgt := 10) hx hb dX0_pushSettled_6 (by decide) ?_
    exact w_X0_pushSettled_10 CX hK hsz parts tree_rows tree_cells starts looses x2 1 _ _ _ h hP hD hS (lv_sub hl [0, 1, 2] rfl)
section G_X0_join
abbrev ws_X0_join (cI cJ cB : ClassId) (a0 a_tree a_tree_cells a_starts a_looses : Nat) (parts : Int32) (tree_rows : Int32) (tree_cells : Nat → Int32) (tree_cells_n : Nat) (starts : Nat → Int32) (looses : Nat → Int32) : va_W := [(a0, .inr (2, [.ref a_tree, .ref a_starts, .ref a_looses, .int parts])), (a_tree, .inr (7, [.ref a_tree_cells, .int tree_rows])), (a_tree_cells, .inl (cI, tree_cells_n, .inl tree_cells)), (a_starts, .inl (cI, 402, .inl starts)), (a_looses, .inl (cI, 402, .inl looses))]
abbrev rm_X0_join : Room := { frames := 3, cells := 0, slots := 0, locals := 68 }
def f_X0_join_203 (N : Nat) (parts : Int32) (tree_rows : Int32) (tree_cells : Nat → Int32) (tree_cells_n : Nat) (starts : Nat → Int32) (looses : Nat → Int32) : Option ((Int32) × (Int32) × (Nat → Int32) × (Nat → Int32)) := some (parts, tree_rows, tree_cells, looses)
def f_X0_join_114 (N : Nat) (parts : Int32) (tree_rows : Int32) (tree_cells : Nat → Int32) (tree_cells_n : Nat) (starts : Nat → Int32) (looses : Nat → Int32) (y5 : Int32) : Option ((Int32) × (Int32) × (Nat → Int32) × (Nat → Int32)) := (f_X5_cut N tree_rows y5).bind (fun z120 => f_X0_join_203 N parts z120 tree_cells tree_cells_n starts looses)
def f_X0_join_138 (N : Nat) (parts : Int32) (tree_rows : Int32) (tree_cells : Nat → Int32) (tree_cells_n : Nat) (starts : Nat → Int32) (looses : Nat → Int32) (y4 : Int32) (y5 : Int32) : Option ((Int32) × (Int32) × (Nat → Int32) × (Nat → Int32)) := (f_X5_slide N tree_rows tree_cells tree_cells_n y5 y4).bind (fun z146 => ix parts 402 (ix (parts - 1) 402 (f_X0_join_203 N parts z146.1 z146.2 tree_cells_n starts (upd looses (parts - 1).toNatClampNeg (looses parts.toNatClampNeg)))))
def f_X0_join_32 (N : Nat) (parts : Int32) (tree_rows : Int32) (tree_cells : Nat → Int32) (tree_cells_n : Nat) (starts : Nat → Int32) (looses : Nat → Int32) (y1 : Int32) (y2 : Int32) (s0 : Int32) : Option ((Int32) × (Int32) × (Nat → Int32) × (Nat → Int32)) := ix (parts - 2) 402 (ix (parts - 1) 402 ((f_X5_kind N tree_rows tree_cells tree_cells_n ((starts (parts - 1).toNatClampNeg) - 1)).bind (fun z67 => (f_X0_lastKind N tree_rows tree_cells tree_cells_n).bind (fun z73 => ifb (z67 = y2) (f_X0_join_114 N (parts - 1) tree_rows tree_cells tree_cells_n starts looses (starts (parts - 1).toNatClampNeg)) (ifb (z73 = s0) (f_X0_join_114 N (parts - 1) tree_rows tree_cells tree_cells_n starts looses (starts (parts - 1).toNatClampNeg)) ((f_X5_repeats N tree_rows tree_cells tree_cells_n (starts (parts - 2).toNatClampNeg) (starts (parts - 1).toNatClampNeg)).bind (fun z108 => ifb (z108 = 0) (ifb (z73 = y2) (f_X0_join_138 N (parts - 1) tree_rows tree_cells tree_cells_n starts looses (starts (parts - 2).toNatClampNeg) (starts (parts - 1).toNatClampNeg)) (ifb (z67 = s0) (f_X0_join_138 N (parts - 1) tree_rows tree_cells tree_cells_n starts looses (starts (parts - 2).toNatClampNeg) (starts (parts - 1).toNatClampNeg)) (ix ((parts - 1) - 1) 402 (ix (parts - 1) 402 (ix ((parts - 1) - 1) 402 ((f_X5_add N tree_rows tree_cells tree_cells_n y1).bind (fun z200 => f_X0_join_203 N (parts - 1) z200.1 z200.2 tree_cells_n starts (upd looses ((parts - 1) - 1).toNatClampNeg ((looses ((parts - 1) - 1).toNatClampNeg) ||| (looses (parts - 1).toNatClampNeg)))))))))) (f_X0_join_114 N (parts - 1) tree_rows tree_cells tree_cells_n starts looses (starts (parts - 1).toNatClampNeg)))))))))
def f_X0_join_20 (N : Nat) (parts : Int32) (tree_rows : Int32) (tree_cells : Nat → Int32) (tree_cells_n : Nat) (starts : Nat → Int32) (looses : Nat → Int32) (y1 : Int32) (s0 : Int32) : Option ((Int32) × (Int32) × (Nat → Int32) × (Nat → Int32)) := ifb (y1 = 6) (f_X0_join_32 N parts tree_rows tree_cells tree_cells_n starts looses y1 s0 0) (f_X0_join_32 N parts tree_rows tree_cells tree_cells_n starts looses y1 s0 1)
def f_X0_join (N : Nat) (parts : Int32) (tree_rows : Int32) (tree_cells : Nat → Int32) (tree_cells_n : Nat) (starts : Nat → Int32) (looses : Nat → Int32) (x1 : Int32) : Option ((Int32) × (Int32) × (Nat → Int32) × (Nat → Int32)) := ifb (2 ≤ parts) (ifb (x1 = 6) (f_X0_join_20 N parts tree_rows tree_cells tree_cells_n starts looses x1 1) (f_X0_join_20 N parts tree_rows tree_cells tree_cells_n starts looses x1 0)) (some (parts, tree_rows, tree_cells, looses))
variable {p : Program} {l : Launch} {e : Env} {s : State} {m : MethodId} {below : List Frame} {meth : Method} {c : Code} {args : Array Value} {x0 : Cond} {D : va_G} {cI cJ cB : ClassId} {sz N : Nat} {ws0 : va_W} {a0 a_tree a_tree_cells a_starts a_looses : Nat} {tree_cells_n : Nat} {starts : Nat → Int32} {z : (Int32) × (Int32) × (Nat → Int32) × (Nat → Int32)}
set_option maxHeartbeats 4000000 in
set_option maxRecDepth 100000 in
theorem w_X0_join_203 (CX : Cx p m c cX0_join 8 s args x0 RX0 meth none) (hK : va_K D vwCl (ty0 cI cJ cB) s) (hsz : s.heap.size = sz) : ∀ (parts : Int32) (tree_rows : Int32) (tree_cells : Nat → Int32) (looses : Nat → Int32) (H : Heap) (locs : List Loc) (ls : Array Slot), f_X0_join_203 N parts tree_rows tree_cells tree_cells_n starts looses = some z → va_P D vwCl (ws_X0_join cI cJ cB a0 a_tree a_tree_cells a_starts a_looses parts tree_rows tree_cells tree_cells_n starts looses) H → va_D (va_A ws0 sz) (ws_X0_join cI cJ cB a0 a_tree a_tree_cells a_starts a_looses parts tree_rows tree_cells tree_cells_n starts looses) → va_S (va_A ws0 sz) s.heap H locs → lv_has ls 8 [] → W p l e rm_X0_join s m args below meth c H locs 0 0 (MQ below (gQ D sz ws0 (ws_X0_join cI cJ cB a0 a_tree a_tree_cells a_starts a_looses z.1 z.2.1 z.2.2.1 tree_cells_n starts z.2.2.2) none) args s 0 0 (va_A ws0 sz)) (F0 m 203 ls []) := by
  obtain ⟨F, hr, hlk, hNw⟩ := id CX
  have hx := F.1
  have hb := F.2.1
  have hown := F.2.2.2.1
  have hA : ∀ q, s.heap.size ≤ q → va_A ws0 sz q := fun q hq => Or.inr (hsz ▸ hq)
  intro parts tree_rows tree_cells looses H locs ls h hP hD hS hl
  unfold f_X0_join_203 at h
  obtain rfl := Option.some.inj h
  exact r_vret F hr hlk dX0_join_203 hsz hP hD hS
set_option maxHeartbeats 4000000 in
set_option maxRecDepth 100000 in
theorem w_X0_join_114 (CX : Cx p m c cX0_join 8 s args x0 RX0 meth none) (hK : va_K D vwCl (ty0 cI cJ cB) s) (hsz : s.heap.size = sz) : ∀ (parts : Int32) (tree_rows : Int32) (tree_cells : Nat → Int32) (looses : Nat → Int32) (y5 : Int32) (H : Heap) (locs : List Loc) (ls : Array Slot), f_X0_join_114 N parts tree_rows tree_cells tree_cells_n starts looses y5 = some z → va_P D vwCl (ws_X0_join cI cJ cB a0 a_tree a_tree_cells a_starts a_looses parts tree_rows tree_cells tree_cells_n starts looses) H → va_D (va_A ws0 sz) (ws_X0_join cI cJ cB a0 a_tree a_tree_cells a_starts a_looses parts tree_rows tree_cells tree_cells_n starts looses) → va_S (va_A ws0 sz) s.heap H locs → lv_has ls 8 [(0, .ref a0), (5, .int y5)] → W p l e rm_X0_join s m args below meth c H locs 0 0 (MQ below (gQ D sz ws0 (ws_X0_join cI cJ cB a0 a_tree a_tree_cells a_starts a_looses z.1 z.2.1 z.2.2.1 tree_cells_n starts z.2.2.2) none) args s 0 0 (va_A ws0 sz)) (F0 m 114 ls []) := by
  obtain ⟨F, hr, hlk, hNw⟩ := id CX
  have hx := F.1
  have hb := F.2.1
  have hown := F.2.2.2.1
  have hA : ∀ q, s.heap.size ≤ q → va_A ws0 sz q := fun q hq => Or.inr (hsz ▸ hq)
  intro parts tree_rows tree_cells looses y5 H locs ls h hP hD hS hl
  unfold f_X0_join_114 at h
  refine lv_aload_n hx hb dX0_join_114 rfl (lv_at hl 0 rfl) ?_
  refine r_get F hK hP 0 0 rfl inW_X0 wm_138 rfl (by decide) rfl dX0_join_115 ?_
  refine lv_iload hx hb dX0_join_118 (lv_at hl 1 rfl) ?_
  obtain ⟨z120, hz120, h⟩ := o_b h
  refine k_v (wn := (ws_X0_join cI cJ cB a0 a_tree a_tree_cells a_starts a_looses parts z120 tree_cells tree_cells_n starts looses)) (As := [.int y5]) (rest := []) F hNw hK hP hD hS hA (c_X5_cut l D cI cJ cB a_tree a_tree_cells _ tree_rows y5 N hz120) wm_630 cv_X5_cut [1] [0, 2, 3, 4] [0, 4, 1, 2, 3] (⟨rfl, rfl, rfl, by decide, rfl⟩ : Ix [1] [0, 2, 3, 4] [0, 4, 1, 2, 3] 5) rfl rfl rfl rfl rfl rfl ⟨rfl, rfl, by decide, by decide⟩ hl.1 rfl (Nat.le_of_ble_eq_true rfl) ⟨Nat.zero_le _, Nat.zero_le _⟩ dX0_join_120 (fun H locs hP hD hS => ?_)
  refine lv_goto (tgt := 203) hx hb dX0_join_123 (by decide) ?_
  exact w_X0_join_203 CX hK hsz parts z120 tree_cells looses _ _ _ h hP hD hS (lv_sub hl [] rfl)
set_option maxHeartbeats 4000000 in
set_option maxRecDepth 100000 in
theorem w_X0_join_138 (CX : Cx p m c cX0_join 8 s args x0 RX0 meth none) (hK : va_K D vwCl (ty0 cI cJ cB) s) (hsz : s.heap.size = sz) : ∀ (parts : Int32) (tree_rows : Int32) (tree_cells : Nat → Int32) (looses : Nat → Int32) (y4 : Int32) (y5 : Int32) (H : Heap) (locs : List Loc) (ls : Array Slot), f_X0_join_138 N parts tree_rows tree_cells tree_cells_n starts looses y4 y5 = some z → va_P D vwCl (ws_X0_join cI cJ cB a0 a_tree a_tree_cells a_starts a_looses parts tree_rows tree_cells tree_cells_n starts looses) H → va_D (va_A ws0 sz) (ws_X0_join cI cJ cB a0 a_tree a_tree_cells a_starts a_looses parts tree_rows tree_cells tree_cells_n starts looses) → va_S (va_A ws0 sz) s.heap H locs → lv_has ls 8 [(0, .ref a0), (4, .int y4), (5, .int y5)] → W p l e rm_X0_join s m args below meth c H locs 0 0 (MQ below (gQ D sz ws0 (ws_X0_join cI cJ cB a0 a_tree a_tree_cells a_starts a_looses z.1 z.2.1 z.2.2.1 tree_cells_n starts z.2.2.2) none) args s 0 0 (va_A ws0 sz)) (F0 m 138 ls []) := by
  obtain ⟨F, hr, hlk, hNw⟩ := id CX
  have hx := F.1
  have hb := F.2.1
  have hown := F.2.2.2.1
  have hA : ∀ q, s.heap.size ≤ q → va_A ws0 sz q := fun q hq => Or.inr (hsz ▸ hq)
  intro parts tree_rows tree_cells looses y4 y5 H locs ls h hP hD hS hl
  unfold f_X0_join_138 at h
  refine lv_aload_n hx hb dX0_join_138 rfl (lv_at hl 0 rfl) ?_
  refine r_get F hK hP 0 0 rfl inW_X0 wm_138 rfl (by decide) rfl dX0_join_139 ?_
  refine lv_iload hx hb dX0_join_142 (lv_at hl 2 rfl) ?_
  refine lv_iload hx hb dX0_join_144 (lv_at hl 1 rfl) ?_
  obtain ⟨z146, hz146, h⟩ := o_b h
  refine k_v (wn := (ws_X0_join cI cJ cB a0 a_tree a_tree_cells a_starts a_looses parts z146.1 z146.2 tree_cells_n starts looses)) (As := [.int y5, .int y4]) (rest := []) F hNw hK hP hD hS hA (c_X5_slide l D cI cJ cB a_tree a_tree_cells _ tree_rows tree_cells tree_cells_n y5 y4 N hz146) wm_772 cv_X5_slide [1, 2] [0, 3, 4] [0, 3, 4, 1, 2] (⟨rfl, rfl, rfl, by decide, rfl⟩ : Ix [1, 2] [0, 3, 4] [0, 3, 4, 1, 2] 5) rfl rfl rfl rfl rfl rfl ⟨rfl, rfl, by decide, by decide⟩ hl.1 rfl (Nat.le_of_ble_eq_true rfl) ⟨Nat.zero_le _, Nat.zero_le _⟩ dX0_join_146 (fun H locs hP hD hS => ?_)
  refine lv_aload_n hx hb dX0_join_149 rfl (lv_at hl 0 rfl) ?_
  refine r_get F hK hP 0 2 rfl inW_X0 wm_142 rfl (by decide) rfl dX0_join_150 ?_
  refine lv_aload_n hx hb dX0_join_153 rfl (lv_at hl 0 rfl) ?_
  refine r_get F hK hP 0 3 rfl inW_X0 wm_143 rfl (by decide) rfl dX0_join_154 ?_
  refine lv_iconst (v := 1) hx hb dX0_join_157 (by decide) ?_
  refine lv_isub hx hb dX0_join_158 ?_
  refine lv_aload_n hx hb dX0_join_159 rfl (lv_at hl 0 rfl) ?_
  refine r_get F hK hP 0 2 rfl inW_X0 wm_142 rfl (by decide) rfl dX0_join_160 ?_
  refine lv_aload_n hx hb dX0_join_163 rfl (lv_at hl 0 rfl) ?_
  refine r_get F hK hP 0 3 rfl inW_X0 wm_143 rfl (by decide) rfl dX0_join_164 ?_
  obtain ⟨hi167, h⟩ := o_ix h
  refine va_iald hx hb hK hP 4 0 rfl rfl hi167 dX0_join_167 ?_
  obtain ⟨hi168, h⟩ := o_ix h
  refine r_iast (wn := (ws_X0_join cI cJ cB a0 a_tree a_tree_cells a_starts a_looses parts z146.1 z146.2 tree_cells_n starts (upd looses (parts - 1).toNatClampNeg (looses parts.toNatClampNeg)))) F hK hP hD hS 4 0 hi168 rfl rfl rfl dX0_join_168 (fun H locs hP hD hS => ?_)
  refine lv_goto (tgt := 203) hx hb dX0_join_169 (by decide) ?_
  exact w_X0_join_203 CX hK hsz parts z146.1 z146.2 (upd looses (parts - 1).toNatClampNeg (looses parts.toNatClampNeg)) _ _ _ h hP hD hS (lv_sub hl [] rfl)
set_option maxHeartbeats 4000000 in
set_option maxRecDepth 100000 in
theorem w_X0_join_32 (CX : Cx p m c cX0_join 8 s args x0 RX0 meth none) (hK : va_K D vwCl (ty0 cI cJ cB) s) (hsz : s.heap.size = sz) : ∀ (parts : Int32) (tree_rows : Int32) (tree_cells : Nat → Int32) (looses : Nat → Int32) (y1 : Int32) (y2 : Int32) (s0 : Int32) (H : Heap) (locs : List Loc) (ls : Array Slot), f_X0_join_32 N parts tree_rows tree_cells tree_cells_n starts looses y1 y2 s0 = some z → va_P D vwCl (ws_X0_join cI cJ cB a0 a_tree a_tree_cells a_starts a_looses parts tree_rows tree_cells tree_cells_n starts looses) H → va_D (va_A ws0 sz) (ws_X0_join cI cJ cB a0 a_tree a_tree_cells a_starts a_looses parts tree_rows tree_cells tree_cells_n starts looses) → va_S (va_A ws0 sz) s.heap H locs → lv_has ls 8 [(0, .ref a0), (1, .int y1), (2, .int y2)] → W p l e rm_X0_join s m args below meth c H locs 0 0 (MQ below (gQ D sz ws0 (ws_X0_join cI cJ cB a0 a_tree a_tree_cells a_starts a_looses z.1 z.2.1 z.2.2.1 tree_cells_n starts z.2.2.2) none) args s 0 0 (va_A ws0 sz)) (F0 m 32 ls [.int s0]) := by
  obtain ⟨F, hr, hlk, hNw⟩ := id CX
  have hx := F.1
  have hb := F.2.1
  have hown := F.2.2.2.1
  have hA : ∀ q, s.heap.size ≤ q → va_A ws0 sz q := fun q hq => Or.inr (hsz ▸ hq)
  intro parts tree_rows tree_cells looses y1 y2 s0 H locs ls h hP hD hS hl
  unfold f_X0_join_32 at h
  refine lv_istore_n (lv' := [(3, .int s0), (0, .ref a0), (1, .int y1), (2, .int y2)]) hx hb dX0_join_32 rfl hl (by decide) rfl (fun ls hl => ?_)
  refine lv_aload_n hx hb dX0_join_33 rfl (lv_at hl 1 rfl) ?_
  refine r_get F hK hP 0 1 rfl inW_X0 wm_141 rfl (by decide) rfl dX0_join_34 ?_
  refine lv_aload_n hx hb dX0_join_37 rfl (lv_at hl 1 rfl) ?_
  refine r_get F hK hP 0 3 rfl inW_X0 wm_143 rfl (by decide) rfl dX0_join_38 ?_
  refine lv_iconst (v := 2) hx hb dX0_join_41 (by decide) ?_
  refine lv_isub hx hb dX0_join_42 ?_
  obtain ⟨hi43, h⟩ := o_ix h
  refine va_iald hx hb hK hP 3 0 rfl rfl hi43 dX0_join_43 ?_
  refine lv_istore (lv' := [(4, .int (starts (parts - 2).toNatClampNeg)), (3, .int s0), (0, .ref a0), (1, .int y1), (2, .int y2)]) hx hb dX0_join_44 hl (by decide) rfl (fun ls hl => ?_)
  refine lv_aload_n hx hb dX0_join_46 rfl (lv_at hl 2 rfl) ?_
  refine r_get F hK hP 0 1 rfl inW_X0 wm_141 rfl (by decide) rfl dX0_join_47 ?_
  refine lv_aload_n hx hb dX0_join_50 rfl (lv_at hl 2 rfl) ?_
  refine r_get F hK hP 0 3 rfl inW_X0 wm_143 rfl (by decide) rfl dX0_join_51 ?_
  refine lv_iconst (v := 1) hx hb dX0_join_54 (by decide) ?_
  refine lv_isub hx hb dX0_join_55 ?_
  obtain ⟨hi56, h⟩ := o_ix h
  refine va_iald hx hb hK hP 3 0 rfl rfl hi56 dX0_join_56 ?_
  refine lv_istore (lv' := [(5, .int (starts (parts - 1).toNatClampNeg)), (4, .int (starts (parts - 2).toNatClampNeg)), (3, .int s0), (0, .ref a0), (1, .int y1), (2, .int y2)]) hx hb dX0_join_57 hl (by decide) rfl (fun ls hl => ?_)
  refine lv_aload_n hx hb dX0_join_59 rfl (lv_at hl 3 rfl) ?_
  refine r_get F hK hP 0 0 rfl inW_X0 wm_138 rfl (by decide) rfl dX0_join_60 ?_
  refine lv_iload hx hb dX0_join_63 (lv_at hl 0 rfl) ?_
  refine lv_iconst (v := 1) hx hb dX0_join_65 (by decide) ?_
  refine lv_isub hx hb dX0_join_66 ?_
  obtain ⟨z67, hz67, h⟩ := o_b h
  refine k_v (wn := (ws_X0_join cI cJ cB a0 a_tree a_tree_cells a_starts a_looses parts tree_rows tree_cells tree_cells_n starts looses)) (As := [.int ((starts (parts - 1).toNatClampNeg) - 1)]) (rest := []) F hNw hK hP hD hS hA (c_X5_kind l D cI cJ cB a_tree a_tree_cells _ tree_rows tree_cells tree_cells_n ((starts (parts - 1).toNatClampNeg) - 1) N hz67) wm_760 cv_X5_kind [1, 2] [0, 3, 4] [0, 3, 4, 1, 2] (⟨rfl, rfl, rfl, by decide, rfl⟩ : Ix [1, 2] [0, 3, 4] [0, 3, 4, 1, 2] 5) rfl rfl rfl rfl rfl rfl ⟨rfl, rfl, by decide, by decide⟩ hl.1 rfl (Nat.le_of_ble_eq_true rfl) ⟨Nat.zero_le _, Nat.zero_le _⟩ dX0_join_67 (fun H locs hP hD hS => ?_)
  refine lv_istore (lv' := [(6, .int z67), (5, .int (starts (parts - 1).toNatClampNeg)), (4, .int (starts (parts - 2).toNatClampNeg)), (3, .int s0), (0, .ref a0), (1, .int y1), (2, .int y2)]) hx hb dX0_join_70 hl (by decide) rfl (fun ls hl => ?_)
  refine lv_aload_n hx hb dX0_join_72 rfl (lv_at hl 4 rfl) ?_
  obtain ⟨z73, hz73, h⟩ := o_b h
  refine k_v (wn := (ws_X0_join cI cJ cB a0 a_tree a_tree_cells a_starts a_looses parts tree_rows tree_cells tree_cells_n starts looses)) (As := []) (rest := []) F hNw hK hP hD hS hA (c_X0_lastKind l D cI cJ cB a0 a_starts a_looses a_tree a_tree_cells _ parts tree_rows tree_cells tree_cells_n N hz73) wm_764 cv_X0_lastKind [0, 1, 2] [3, 4] [2, 3, 4, 0, 1] (⟨rfl, rfl, rfl, by decide, rfl⟩ : Ix [0, 1, 2] [3, 4] [2, 3, 4, 0, 1] 5) rfl rfl rfl rfl rfl rfl ⟨rfl, rfl, by decide, by decide⟩ hl.1 rfl (Nat.le_of_ble_eq_true rfl) ⟨Nat.zero_le _, Nat.zero_le _⟩ dX0_join_73 (fun H locs hP hD hS => ?_)
  refine lv_istore (lv' := [(7, .int z73), (6, .int z67), (5, .int (starts (parts - 1).toNatClampNeg)), (4, .int (starts (parts - 2).toNatClampNeg)), (3, .int s0), (0, .ref a0), (1, .int y1), (2, .int y2)]) hx hb dX0_join_76 hl (by decide) rfl (fun ls hl => ?_)
  refine lv_aload_n hx hb dX0_join_78 rfl (lv_at hl 5 rfl) ?_
  refine lv_dup hx hb dX0_join_79 rfl ?_
  refine r_get F hK hP 0 3 rfl inW_X0 wm_143 rfl (by decide) rfl dX0_join_80 ?_
  refine lv_iconst (v := 1) hx hb dX0_join_83 (by decide) ?_
  refine lv_isub hx hb dX0_join_84 ?_
  refine r_put (wn := (ws_X0_join cI cJ cB a0 a_tree a_tree_cells a_starts a_looses (parts - 1) tree_rows tree_cells tree_cells_n starts looses)) F hK hP hD hS 0 3 rfl inW_X0 wm_143 tyX0_ok nmX0 rfl rfl (by decide) rfl rfl (Nat.le_of_ble_eq_true rfl) rfl dX0_join_85 (fun H locs hP hD hS => ?_)
  refine lv_iload hx hb dX0_join_88 (lv_at hl 1 rfl) ?_
  refine lv_iload_n hx hb dX0_join_90 rfl (lv_at hl 7 rfl) ?_
  refine lv_icmp_eq (tgt := 114) hx hb dX0_join_91 (by decide) (fun c91 => ?_) (fun c91 => ?_)
  · have h := o_t c91 h
    exact w_X0_join_114 CX hK hsz (parts - 1) tree_rows tree_cells looses (starts (parts - 1).toNatClampNeg) _ _ _ h hP hD hS (lv_sub hl [5, 2] rfl)
  · have h := o_f c91 h
    refine lv_iload hx hb dX0_join_94 (lv_at hl 0 rfl) ?_
    refine lv_iload_n hx hb dX0_join_96 rfl (lv_at hl 4 rfl) ?_
    refine lv_icmp_eq (tgt := 114) hx hb dX0_join_97 (by decide) (fun c97 => ?_) (fun c97 => ?_)
    · have h := o_t c97 h
      exact w_X0_join_114 CX hK hsz (parts - 1) tree_rows tree_cells looses (starts (parts - 1).toNatClampNeg) _ _ _ h hP hD hS (lv_sub hl [5, 2] rfl)
    · have h := o_f c97 h
      refine lv_aload_n hx hb dX0_join_100 rfl (lv_at hl 5 rfl) ?_
      refine r_get F hK hP 0 0 rfl inW_X0 wm_138 rfl (by decide) rfl dX0_join_101 ?_
      refine lv_iload hx hb dX0_join_104 (lv_at hl 3 rfl) ?_
      refine lv_iload hx hb dX0_join_106 (lv_at hl 2 rfl) ?_
      obtain ⟨z108, hz108, h⟩ := o_b h
      refine k_v (wn := (ws_X0_join cI cJ cB a0 a_tree a_tree_cells a_starts a_looses (parts - 1) tree_rows tree_cells tree_cells_n starts looses)) (As := [.int (starts (parts - 2).toNatClampNeg), .int (starts (parts - 1).toNatClampNeg)]) (rest := []) F hNw hK hP hD hS hA (c_X5_repeats l D cI cJ cB a_tree a_tree_cells _ tree_rows tree_cells tree_cells_n (starts (parts - 2).toNatClampNeg) (starts (parts - 1).toNatClampNeg) N hz108) wm_768 cv_X5_repeats [1, 2] [0, 3, 4] [0, 3, 4, 1, 2] (⟨rfl, rfl, rfl, by decide, rfl⟩ : Ix [1, 2] [0, 3, 4] [0, 3, 4, 1, 2] 5) rfl rfl rfl rfl rfl rfl ⟨rfl, rfl, by decide, by decide⟩ hl.1 rfl (Nat.le_of_ble_eq_true rfl) ⟨Nat.zero_le _, Nat.zero_le _⟩ dX0_join_108 (fun H locs hP hD hS => ?_)
      refine lv_if_eq (tgt := 126) hx hb dX0_join_111 (by decide) (fun c111 => ?_) (fun c111 => ?_)
      · have h := o_t c111 h
        refine lv_iload hx hb dX0_join_126 (lv_at hl 0 rfl) ?_
        refine lv_iload_n hx hb dX0_join_128 rfl (lv_at hl 7 rfl) ?_
        refine lv_icmp_eq (tgt := 138) hx hb dX0_join_129 (by decide) (fun c129 => ?_) (fun c129 => ?_)
        · have h := o_t c129 h
          exact w_X0_join_138 CX hK hsz (parts - 1) tree_rows tree_cells looses (starts (parts - 2).toNatClampNeg) (starts (parts - 1).toNatClampNeg) _ _ _ h hP hD hS (lv_sub hl [5, 3, 2] rfl)
        · have h := o_f c129 h
          refine lv_iload hx hb dX0_join_132 (lv_at hl 1 rfl) ?_
          refine lv_iload_n hx hb dX0_join_134 rfl (lv_at hl 4 rfl) ?_
          refine lv_icmp_ne (tgt := 172) hx hb dX0_join_135 (by decide) (fun c135 => ?_) (fun c135 => ?_)
          · have h := o_f c135 h
            refine lv_aload_n hx hb dX0_join_172 rfl (lv_at hl 5 rfl) ?_
            refine r_get F hK hP 0 2 rfl inW_X0 wm_142 rfl (by decide) rfl dX0_join_173 ?_
            refine lv_aload_n hx hb dX0_join_176 rfl (lv_at hl 5 rfl) ?_
            refine r_get F hK hP 0 3 rfl inW_X0 wm_143 rfl (by decide) rfl dX0_join_177 ?_
            refine lv_iconst (v := 1) hx hb dX0_join_180 (by decide) ?_
            refine lv_isub hx hb dX0_join_181 ?_
            refine lv_dup2_11 hx hb dX0_join_182 rfl rfl ?_
            obtain ⟨hi183, h⟩ := o_ix h
            refine va_iald hx hb hK hP 4 0 rfl rfl hi183 dX0_join_183 ?_
            refine lv_aload_n hx hb dX0_join_184 rfl (lv_at hl 5 rfl) ?_
            refine r_get F hK hP 0 2 rfl inW_X0 wm_142 rfl (by decide) rfl dX0_join_185 ?_
            refine lv_aload_n hx hb dX0_join_188 rfl (lv_at hl 5 rfl) ?_
            refine r_get F hK hP 0 3 rfl inW_X0 wm_143 rfl (by decide) rfl dX0_join_189 ?_
            obtain ⟨hi192, h⟩ := o_ix h
            refine va_iald hx hb hK hP 4 0 rfl rfl hi192 dX0_join_192 ?_
            refine lv_ior hx hb dX0_join_193 ?_
            obtain ⟨hi194, h⟩ := o_ix h
            refine r_iast (wn := (ws_X0_join cI cJ cB a0 a_tree a_tree_cells a_starts a_looses (parts - 1) tree_rows tree_cells tree_cells_n starts (upd looses ((parts - 1) - 1).toNatClampNeg ((looses ((parts - 1) - 1).toNatClampNeg) ||| (looses (parts - 1).toNatClampNeg))))) F hK hP hD hS 4 0 hi194 rfl rfl rfl dX0_join_194 (fun H locs hP hD hS => ?_)
            refine lv_aload_n hx hb dX0_join_195 rfl (lv_at hl 5 rfl) ?_
            refine r_get F hK hP 0 0 rfl inW_X0 wm_138 rfl (by decide) rfl dX0_join_196 ?_
            refine lv_iload_n hx hb dX0_join_199 rfl (lv_at hl 6 rfl) ?_
            obtain ⟨z200, hz200, h⟩ := o_b h
            refine k_v (wn := (ws_X0_join cI cJ cB a0 a_tree a_tree_cells a_starts a_looses (parts - 1) z200.1 z200.2 tree_cells_n starts (upd looses ((parts - 1) - 1).toNatClampNeg ((looses ((parts - 1) - 1).toNatClampNeg) ||| (looses (parts - 1).toNatClampNeg))))) (As := [.int y1]) (rest := []) F hNw hK hP hD hS hA (c_X5_add l D cI cJ cB a_tree a_tree_cells _ tree_rows tree_cells tree_cells_n y1 N hz200) wm_669 cv_X5_add [1, 2] [0, 3, 4] [0, 3, 4, 1, 2] (⟨rfl, rfl, rfl, by decide, rfl⟩ : Ix [1, 2] [0, 3, 4] [0, 3, 4, 1, 2] 5) rfl rfl rfl rfl rfl rfl ⟨rfl, rfl, by decide, by decide⟩ hl.1 rfl (Nat.le_of_ble_eq_true rfl) ⟨Nat.zero_le _, Nat.zero_le _⟩ dX0_join_200 (fun H locs hP hD hS => ?_)
            exact w_X0_join_203 CX hK hsz (parts - 1) z200.1 z200.2 (upd looses ((parts - 1) - 1).toNatClampNeg ((looses ((parts - 1) - 1).toNatClampNeg) ||| (looses (parts - 1).toNatClampNeg))) _ _ _ h hP hD hS (lv_sub hl [] rfl)
          · have h := o_t c135 h
            exact w_X0_join_138 CX hK hsz (parts - 1) tree_rows tree_cells looses (starts (parts - 2).toNatClampNeg) (starts (parts - 1).toNatClampNeg) _ _ _ h hP hD hS (lv_sub hl [5, 3, 2] rfl)
      · have h := o_f c111 h
        exact w_X0_join_114 CX hK hsz (parts - 1) tree_rows tree_cells looses (starts (parts - 1).toNatClampNeg) _ _ _ h hP hD hS (lv_sub hl [5, 2] rfl)
set_option maxHeartbeats 4000000 in
set_option maxRecDepth 100000 in
theorem w_X0_join_20 (CX : Cx p m c cX0_join 8 s args x0 RX0 meth none) (hK : va_K D vwCl (ty0 cI cJ cB) s) (hsz : s.heap.size = sz) : ∀ (parts : Int32) (tree_rows : Int32) (tree_cells : Nat → Int32) (looses : Nat → Int32) (y1 : Int32) (s0 : Int32) (H : Heap) (locs : List Loc) (ls : Array Slot), f_X0_join_20 N parts tree_rows tree_cells tree_cells_n starts looses y1 s0 = some z → va_P D vwCl (ws_X0_join cI cJ cB a0 a_tree a_tree_cells a_starts a_looses parts tree_rows tree_cells tree_cells_n starts looses) H → va_D (va_A ws0 sz) (ws_X0_join cI cJ cB a0 a_tree a_tree_cells a_starts a_looses parts tree_rows tree_cells tree_cells_n starts looses) → va_S (va_A ws0 sz) s.heap H locs → lv_has ls 8 [(0, .ref a0), (1, .int y1)] → W p l e rm_X0_join s m args below meth c H locs 0 0 (MQ below (gQ D sz ws0 (ws_X0_join cI cJ cB a0 a_tree a_tree_cells a_starts a_looses z.1 z.2.1 z.2.2.1 tree_cells_n starts z.2.2.2) none) args s 0 0 (va_A ws0 sz)) (F0 m 20 ls [.int s0]) := by
  obtain ⟨F, hr, hlk, hNw⟩ := id CX
  have hx := F.1
  have hb := F.2.1
  have hown := F.2.2.2.1
  have hA : ∀ q, s.heap.size ≤ q → va_A ws0 sz q := fun q hq => Or.inr (hsz ▸ hq)
  intro parts tree_rows tree_cells looses y1 s0 H locs ls h hP hD hS hl
  unfold f_X0_join_20 at h
  refine lv_istore_n (lv' := [(2, .int s0), (0, .ref a0), (1, .int y1)]) hx hb dX0_join_20 rfl hl (by decide) rfl (fun ls hl => ?_)
  refine lv_iload_n hx hb dX0_join_21 rfl (lv_at hl 2 rfl) ?_
  refine lv_bipush (v := 6) hx hb dX0_join_22 (by decide) ?_
  refine lv_icmp_ne (tgt := 31) hx hb dX0_join_24 (by decide) (fun c24 => ?_) (fun c24 => ?_)
  · have h := o_f c24 h
    refine lv_iconst (v := 1) hx hb dX0_join_31 (by decide) ?_
    exact w_X0_join_32 CX hK hsz parts tree_rows tree_cells looses y1 s0 1 _ _ _ h hP hD hS (lv_sub hl [1, 2, 0] rfl)
  · have h := o_t c24 h
    refine lv_iconst (v := 0) hx hb dX0_join_27 (by decide) ?_
    refine lv_goto (tgt := 32) hx hb dX0_join_28 (by decide) ?_
    exact w_X0_join_32 CX hK hsz parts tree_rows tree_cells looses y1 s0 0 _ _ _ h hP hD hS (lv_sub hl [1, 2, 0] rfl)
end G_X0_join
set_option maxHeartbeats 4000000 in
set_option maxRecDepth 100000 in
theorem c_X0_join (l : Launch) (D : va_G) (cI cJ cB : ClassId) (a0 a_tree a_tree_cells a_starts a_looses : Nat) (sz : Nat) (parts : Int32) (tree_rows : Int32) (tree_cells : Nat → Int32) (tree_cells_n : Nat) (starts : Nat → Int32) (looses : Nat → Int32) (x1 : Int32) (N : Nat) {z : (Int32) × (Int32) × (Nat → Int32) × (Nat → Int32)} (h : f_X0_join N parts tree_rows tree_cells tree_cells_n starts looses x1 = some z) : Mg l yX0_join cX0_join 8 none rm_X0_join D (ty0 cI cJ cB) [.ref a0, .int x1] sz (ws_X0_join cI cJ cB a0 a_tree a_tree_cells a_starts a_looses parts tree_rows tree_cells tree_cells_n starts looses) none (ws_X0_join cI cJ cB a0 a_tree a_tree_cells a_starts a_looses z.1 z.2.1 z.2.2.1 tree_cells_n starts z.2.2.2) := by
  refine Mg.of (by decide) (Nat.le_of_ble_eq_true rfl) ?_
  intro p e s m below meth c CX hK hsz hP hD ls hl
  have CX : Cx p m c cX0_join 8 s ([.ref a0, .int x1] : List Value).toArray (Cond.code yX0_join cX0_join 8 none) RX0 meth none := CX
  obtain ⟨F, hr, hlk, hNw⟩ := id CX
  have hx := F.1
  have hb := F.2.1
  have hown := F.2.2.2.1
  have hl : lv_has ls 8 [(0, .ref a0), (1, .int x1)] := hl
  have hS : va_S (va_A (ws_X0_join cI cJ cB a0 a_tree a_tree_cells a_starts a_looses parts tree_rows tree_cells tree_cells_n starts looses) sz) s.heap s.heap [] := va_S.rf
  have hA : ∀ q, s.heap.size ≤ q → va_A (ws_X0_join cI cJ cB a0 a_tree a_tree_cells a_starts a_looses parts tree_rows tree_cells tree_cells_n starts looses) sz q := fun q hq => Or.inr (hsz ▸ hq)
  unfold f_X0_join at h
  refine lv_aload_n hx hb dX0_join_0 rfl (lv_at hl 0 rfl) ?_
  refine r_get F hK hP 0 3 rfl inW_X0 wm_143 rfl (by decide) rfl dX0_join_1 ?_
  refine lv_iconst (v := 2) hx hb dX0_join_4 (by decide) ?_
  refine lv_icmp_ge (tgt := 9) hx hb dX0_join_5 (by decide) (fun c5 => ?_) (fun c5 => ?_)
  · have h := o_t c5 h
    refine lv_iload_n hx hb dX0_join_9 rfl (lv_at hl 1 rfl) ?_
    refine lv_bipush (v := 6) hx hb dX0_join_10 (by decide) ?_
    refine lv_icmp_ne (tgt := 19) hx hb dX0_join_12 (by decide) (fun c12 => ?_) (fun c12 => ?_)
    · have h := o_f c12 h
      refine lv_iconst (v := 0) hx hb dX0_join_19 (by decide) ?_
      exact w_X0_join_20 CX hK hsz parts tree_rows tree_cells looses x1 0 _ _ _ h hP hD hS (lv_sub hl [0, 1] rfl)
    · have h := o_t c12 h
      refine lv_iconst (v := 1) hx hb dX0_join_15 (by decide) ?_
      refine lv_goto (tgt := 20) hx hb dX0_join_16 (by decide) ?_
      exact w_X0_join_20 CX hK hsz parts tree_rows tree_cells looses x1 1 _ _ _ h hP hD hS (lv_sub hl [0, 1] rfl)
  · have h := o_f c5 h
    obtain rfl := Option.some.inj h
    exact r_vret F hr hlk dX0_join_8 hsz hP hD hS
