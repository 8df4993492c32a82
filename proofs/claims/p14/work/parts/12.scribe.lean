theorem pdq_14 : (parseMethodDescriptor "(LLinearTruths$Tree;I)V").map (fun d => d.parameters.length) = some 2 := by decide +kernel
theorem ncq_4 : "LinearTruths$Scribe" ≠ "java/lang/invoke/MethodHandle" ∧ "LinearTruths$Scribe" ≠ "java/lang/invoke/VarHandle" := by decide +kernel
theorem pdq_15 : (parseMethodDescriptor "([I)V").map (fun d => d.parameters.length) = some 1 := by decide +kernel
theorem inW_X3 : ∀ w ∈ u_ws RX3 TX3 5, w ∈ W0 := q_ls [(1, 183), (1, 185), (1, 187), (1, 189), (1, 191)] (by decide +kernel) (by decide +kernel)
theorem wm_247 : (Cond.fieldLink "LinearTruths$Scribe" 9 "LinearTruths$Scribe" "kept" "[B") ∈ W0 := q_l 1 177 (by decide +kernel) (by decide +kernel)
theorem wm_248 : (Cond.fieldLink "LinearTruths$Scribe" 15 "LinearTruths$Scribe" "spans" "[I") ∈ W0 := q_l 1 178 (by decide +kernel) (by decide +kernel)
theorem wm_249 : (Cond.fieldLink "LinearTruths$Scribe" 19 "LinearTruths$Scribe" "work" "[I") ∈ W0 := q_l 1 179 (by decide +kernel) (by decide +kernel)
theorem wm_250 : (Cond.fieldLink "LinearTruths$Scribe" 22 "LinearTruths$Scribe" "length" "I") ∈ W0 := q_l 1 180 (by decide +kernel) (by decide +kernel)
theorem wm_252 : (Cond.fieldLink "LinearTruths$Scribe" 28 "LinearTruths$Scribe" "works" "I") ∈ W0 := q_l 1 182 (by decide +kernel) (by decide +kernel)
theorem wm_876 : (Cond.static yJ9_abs_0f7a4) ∈ W0 := q_l 4 86 (by decide +kernel) (by decide +kernel)
theorem wm_877 : (Cond.code yJ9_abs_0f7a4 prog_16_method_59_code 1 (some Jvm.ClassFile.FieldType.int)) ∈ W0 := q_l 4 87 (by decide +kernel) (by decide +kernel)
theorem wm_935 : (Cond.methodLink "LinearTruths$Scribe" 31 yX5_measure) ∈ W0 := q_l 4 145 (by decide +kernel) (by decide +kernel)
theorem wm_936 : (Cond.methodLink "LinearTruths$Scribe" 40 yX3_later) ∈ W0 := q_l 4 146 (by decide +kernel) (by decide +kernel)
theorem wm_940 : (Cond.methodLink "LinearTruths$Scribe" 44 yX3_letter) ∈ W0 := q_l 4 150 (by decide +kernel) (by decide +kernel)
theorem wm_944 : (Cond.methodLink "LinearTruths$Scribe" 47 yX3_node) ∈ W0 := q_l 4 154 (by decide +kernel) (by decide +kernel)
theorem wm_948 : (Cond.methodLink "LinearTruths$Scribe" 51 yX5_kind) ∈ W0 := q_l 4 158 (by decide +kernel) (by decide +kernel)
theorem wm_949 : (Cond.methodLink "LinearTruths$Scribe" 55 yX3_atom) ∈ W0 := q_l 4 159 (by decide +kernel) (by decide +kernel)
theorem wm_953 : (Cond.methodLink "LinearTruths$Scribe" 58 yX5_number) ∈ W0 := q_l 4 163 (by decide +kernel) (by decide +kernel)
theorem wm_954 : (Cond.methodLink "LinearTruths$Scribe" 62 yJ9_abs_0f7a4) ∈ W0 := q_l 4 164 (by decide +kernel) (by decide +kernel)
theorem wm_955 : (Cond.methodLink "LinearTruths$Scribe" 67 yX3_digits) ∈ W0 := q_l 4 165 (by decide +kernel) (by decide +kernel)
theorem wm_959 : (Cond.constant "LinearTruths$Scribe" 73 1000000000) ∈ W0 := q_l 4 169 (by decide +kernel) (by decide +kernel)
theorem wm_960 : (Cond.methodLink "LinearTruths$Scribe" 70 yX3_relation) ∈ W0 := q_l 4 170 (by decide +kernel) (by decide +kernel)
theorem wm_972 : (Cond.constantLong "LinearTruths$Scribe" 26 12000) ∈ W0 := q_l 4 182 (by decide +kernel) (by decide +kernel)
theorem nf_X3_37 : (RX3, 37, "LinearTruths$Tree", "rows", "I", "LinearTruths") ∈ NF := by decide +kernel
theorem cv_X3_atom : Cv RX3 yX3_atom cX3_atom 7 none 2 := ⟨q_l 4 161 (by decide +kernel) (by decide +kernel), q_l 0 31 (by decide +kernel) (by decide +kernel), q_l 1 8 (by decide +kernel) (by decide +kernel), q_l 4 162 rfl (by decide +kernel), ⟨rfl, ncq_4.1, ncq_4.2, pdq_14⟩⟩
theorem cv_X3_digits : Cv RX3 yX3_digits cX3_digits 5 none 1 := ⟨q_l 4 167 (by decide +kernel) (by decide +kernel), q_l 0 32 (by decide +kernel) (by decide +kernel), q_l 1 8 (by decide +kernel) (by decide +kernel), q_l 4 168 rfl (by decide +kernel), ⟨rfl, ncq_4.1, ncq_4.2, pdq_9⟩⟩
theorem cv_X3_later : Cv RX3 yX3_later cX3_later 2 none 1 := ⟨q_l 4 148 (by decide +kernel) (by decide +kernel), q_l 0 28 (by decide +kernel) (by decide +kernel), q_l 1 8 (by decide +kernel) (by decide +kernel), q_l 4 149 rfl (by decide +kernel), ⟨rfl, ncq_4.1, ncq_4.2, pdq_9⟩⟩
theorem cv_X3_letter : Cv RX3 yX3_letter cX3_letter 2 none 1 := ⟨q_l 4 152 (by decide +kernel) (by decide +kernel), q_l 0 29 (by decide +kernel) (by decide +kernel), q_l 1 8 (by decide +kernel) (by decide +kernel), q_l 4 153 rfl (by decide +kernel), ⟨rfl, ncq_4.1, ncq_4.2, pdq_9⟩⟩
theorem cv_X3_node : Cv RX3 yX3_node cX3_node 4 none 2 := ⟨q_l 4 156 (by decide +kernel) (by decide +kernel), q_l 0 30 (by decide +kernel) (by decide +kernel), q_l 1 8 (by decide +kernel) (by decide +kernel), q_l 4 157 rfl (by decide +kernel), ⟨rfl, ncq_4.1, ncq_4.2, pdq_14⟩⟩
theorem cv_X3_relation : Cv RX3 yX3_relation cX3_relation 2 none 1 := ⟨q_l 4 172 (by decide +kernel) (by decide +kernel), q_l 0 33 (by decide +kernel) (by decide +kernel), q_l 1 8 (by decide +kernel) (by decide +kernel), q_l 4 173 rfl (by decide +kernel), ⟨rfl, ncq_4.1, ncq_4.2, pdq_9⟩⟩
theorem cv_X5_measure : Cv RX5 yX5_measure cX5_measure 7 none 1 := ⟨q_l 4 125 (by decide +kernel) (by decide +kernel), q_l 4 126 (by decide +kernel) (by decide +kernel), q_l 1 4 (by decide +kernel) (by decide +kernel), q_l 4 127 rfl (by decide +kernel), ⟨rfl, ncq_2.1, ncq_2.2, pdq_15⟩⟩
section G_X3_letterAt
abbrev ws_X3_letterAt (cI cJ cB : ClassId) (a0 a_spans a_work a_kept : Nat) (length : Int32) (works : Int32) (kept : Nat → Int32) : va_W := [(a0, .inr (5, [.ref a_kept, .ref a_spans, .ref a_work, .int length, .int works])), (a_kept, .inl (cB, 12000, .inl kept))]
abbrev rm_X3_letterAt : Room := { frames := 0, cells := 0, slots := 0, locals := 0 }
def f_X3_letterAt_39 (N : Nat) (length : Int32) (kept : Nat → Int32) (s0 : Int32) : Option (Int32) := some s0
def f_X3_letterAt_38 (N : Nat) (length : Int32) (kept : Nat → Int32) : Option (Int32) := f_X3_letterAt_39 N length kept 0
def f_X3_letterAt (N : Nat) (length : Int32) (kept : Nat → Int32) (x1 : Int64) : Option (Int32) := ifb ((lg_cmp x1 0) < 0) (f_X3_letterAt_38 N length kept) (ifb (0 ≤ (lg_cmp x1 length.toInt64)) (f_X3_letterAt_38 N length kept) (ifb (0 ≤ (lg_cmp x1 12000)) (f_X3_letterAt_38 N length kept) (ix x1.toInt32 12000 (f_X3_letterAt_39 N length kept ((kept x1.toInt32.toNatClampNeg) &&& 255)))))
variable {p : Program} {l : Launch} {e : Env} {s : State} {m : MethodId} {below : List Frame} {meth : Method} {c : Code} {args : Array Value} {x0 : Cond} {D : va_G} {cI cJ cB : ClassId} {sz N : Nat} {ws0 : va_W} {a0 a_spans a_work a_kept : Nat} {length : Int32} {works : Int32} {kept : Nat → Int32} {z : Int32}
set_option maxHeartbeats 4000000 in
set_option maxRecDepth 100000 in
theorem w_X3_letterAt_39 (CX : Cx p m c cX3_letterAt 3 s args x0 RX3 meth (some .int)) (hK : va_K D vwCl (ty0 cI cJ cB) s) (hsz : s.heap.size = sz) : ∀ (s0 : Int32) (H : Heap) (locs : List Loc) (ls : Array Slot), f_X3_letterAt_39 N length kept s0 = some z → va_P D vwCl (ws_X3_letterAt cI cJ cB a0 a_spans a_work a_kept length works kept) H → va_D (va_A ws0 sz) (ws_X3_letterAt cI cJ cB a0 a_spans a_work a_kept length works kept) → va_S (va_A ws0 sz) s.heap H locs → lv_has ls 3 [] → W p l e rm_X3_letterAt s m args below meth c H locs 0 0 (MQ below (gQ D sz ws0 (ws_X3_letterAt cI cJ cB a0 a_spans a_work a_kept length works kept) (some (.int z))) args s 0 0 (va_A ws0 sz)) (F0 m 39 ls [.int s0]) := by
  obtain ⟨F, hr, hlk, hNw⟩ := id CX
  have hx := F.1
  have hb := F.2.1
  have hown := F.2.2.2.1
  have hA : ∀ q, s.heap.size ≤ q → va_A ws0 sz q := fun q hq => Or.inr (hsz ▸ hq)
  intro s0 H locs ls h hP hD hS hl
  unfold f_X3_letterAt_39 at h
  obtain rfl := Option.some.inj h
  exact r_ret (v := s0) F hr hlk rfl dX3_letterAt_39 hsz hP hD hS
set_option maxHeartbeats 4000000 in
set_option maxRecDepth 100000 in
theorem w_X3_letterAt_38 (CX : Cx p m c cX3_letterAt 3 s args x0 RX3 meth (some .int)) (hK : va_K D vwCl (ty0 cI cJ cB) s) (hsz : s.heap.size = sz) : ∀ (H : Heap) (locs : List Loc) (ls : Array Slot), f_X3_letterAt_38 N length kept = some z → va_P D vwCl (ws_X3_letterAt cI cJ cB a0 a_spans a_work a_kept length works kept) H → va_D (va_A ws0 sz) (ws_X3_letterAt cI cJ cB a0 a_spans a_work a_kept length works kept) → va_S (va_A ws0 sz) s.heap H locs → lv_has ls 3 [] → W p l e rm_X3_letterAt s m args below meth c H locs 0 0 (MQ below (gQ D sz ws0 (ws_X3_letterAt cI cJ cB a0 a_spans a_work a_kept length works kept) (some (.int z))) args s 0 0 (va_A ws0 sz)) (F0 m 38 ls []) := by
  obtain ⟨F, hr, hlk, hNw⟩ := id CX
  have hx := F.1
  have hb := F.2.1
  have hown := F.2.2.2.1
  have hA : ∀ q, s.heap.size ≤ q → va_A ws0 sz q := fun q hq => Or.inr (hsz ▸ hq)
  intro  H locs ls h hP hD hS hl
  unfold f_X3_letterAt_38 at h
  refine lv_iconst (v := 0) hx hb dX3_letterAt_38 (by decide) ?_
  exact w_X3_letterAt_39 CX hK hsz 0 _ _ _ h hP hD hS (lv_sub hl [] rfl)
end G_X3_letterAt
set_option maxHeartbeats 4000000 in
set_option maxRecDepth 100000 in
theorem c_X3_letterAt (l : Launch) (D : va_G) (cI cJ cB : ClassId) (a0 a_spans a_work a_kept : Nat) (sz : Nat) (length : Int32) (works : Int32) (kept : Nat → Int32) (x1 : Int64) (N : Nat) {z : Int32} (h : f_X3_letterAt N length kept x1 = some z) : Mg l yX3_letterAt cX3_letterAt 3 (some .int) rm_X3_letterAt D (ty0 cI cJ cB) [.ref a0, .long x1] sz (ws_X3_letterAt cI cJ cB a0 a_spans a_work a_kept length works kept) (some (.int z)) (ws_X3_letterAt cI cJ cB a0 a_spans a_work a_kept length works kept) := by
  refine Mg.of (by decide) (Nat.le_of_ble_eq_true rfl) ?_
  intro p e s m below meth c CX hK hsz hP hD ls hl
  have CX : Cx p m c cX3_letterAt 3 s ([.ref a0, .long x1] : List Value).toArray (Cond.code yX3_letterAt cX3_letterAt 3 (some .int)) RX3 meth (some .int) := CX
  obtain ⟨F, hr, hlk, hNw⟩ := id CX
  have hx := F.1
  have hb := F.2.1
  have hown := F.2.2.2.1
  have hl : lv_has ls 3 [(0, .ref a0), (1, .long x1)] := hl
  have hS : va_S (va_A (ws_X3_letterAt cI cJ cB a0 a_spans a_work a_kept length works kept) sz) s.heap s.heap [] := va_S.rf
  have hA : ∀ q, s.heap.size ≤ q → va_A (ws_X3_letterAt cI cJ cB a0 a_spans a_work a_kept length works kept) sz q := fun q hq => Or.inr (hsz ▸ hq)
  unfold f_X3_letterAt at h
  refine lv_lload_n hx hb dX3_letterAt_0 rfl (lv_at hl 1 rfl) ?_
  refine lv_lconst (v := 0) hx hb dX3_letterAt_1 (by decide) ?_
  refine W.lcmp hx hb dX3_letterAt_2 ?_
  refine lv_if_lt (tgt := 38) hx hb dX3_letterAt_3 (by decide) (fun c3 => ?_) (fun c3 => ?_)
  · have h := o_t c3 h
    exact w_X3_letterAt_38 CX hK hsz  _ _ _ h hP hD hS (lv_sub hl [] rfl)
  · have h := o_f c3 h
    refine lv_lload_n hx hb dX3_letterAt_6 rfl (lv_at hl 1 rfl) ?_
    refine lv_aload_n hx hb dX3_letterAt_7 rfl (lv_at hl 0 rfl) ?_
    refine r_get F hK hP 0 3 rfl inW_X3 wm_250 rfl (by decide) rfl dX3_letterAt_8 ?_
    refine lv_i2l hx hb dX3_letterAt_11 rfl ?_
    refine W.lcmp hx hb dX3_letterAt_12 ?_
    refine lv_if_ge (tgt := 38) hx hb dX3_letterAt_13 (by decide) (fun c13 => ?_) (fun c13 => ?_)
    · have h := o_t c13 h
      exact w_X3_letterAt_38 CX hK hsz  _ _ _ h hP hD hS (lv_sub hl [] rfl)
    · have h := o_f c13 h
      refine lv_lload_n hx hb dX3_letterAt_16 rfl (lv_at hl 1 rfl) ?_
      refine lv_ldc2 (v := 12000) hx hb hown (F.2.2.2.2 _ (q_in wm_972)) dX3_letterAt_17 ?_
      refine W.lcmp hx hb dX3_letterAt_20 ?_
      refine lv_if_ge (tgt := 38) hx hb dX3_letterAt_21 (by decide) (fun c21 => ?_) (fun c21 => ?_)
      · have h := o_t c21 h
        exact w_X3_letterAt_38 CX hK hsz  _ _ _ h hP hD hS (lv_sub hl [] rfl)
      · have h := o_f c21 h
        refine lv_aload_n hx hb dX3_letterAt_24 rfl (lv_at hl 0 rfl) ?_
        refine r_get F hK hP 0 0 rfl inW_X3 wm_247 rfl (by decide) rfl dX3_letterAt_25 ?_
        refine lv_lload_n hx hb dX3_letterAt_28 rfl (lv_at hl 1 rfl) ?_
        refine lv_l2i hx hb dX3_letterAt_29 rfl ?_
        obtain ⟨hi30, h⟩ := o_ix h
        refine va_bald hx hb hK hP 1 2 rfl rfl hi30 dX3_letterAt_30 ?_
        refine lv_sipush (v := 255) hx hb dX3_letterAt_31 (by decide) ?_
        refine lv_iand hx hb dX3_letterAt_34 ?_
        refine lv_goto (tgt := 39) hx hb dX3_letterAt_35 (by decide) ?_
        exact w_X3_letterAt_39 CX hK hsz ((kept x1.toInt32.toNatClampNeg) &&& 255) _ _ _ h hP hD hS (lv_sub hl [] rfl)
section G_X3_later
abbrev ws_X3_later (cI cJ cB : ClassId) (a0 a_kept a_spans a_work : Nat) (length : Int32) (works : Int32) (work : Nat → Int32) : va_W := [(a0, .inr (5, [.ref a_kept, .ref a_spans, .ref a_work, .int length, .int works])), (a_work, .inl (cI, 1600, .inl work))]
abbrev rm_X3_later : Room := { frames := 0, cells := 0, slots := 0, locals := 0 }
def f_X3_later_30 (N : Nat) (works : Int32) (work : Nat → Int32) : Option ((Int32) × (Nat → Int32)) := some (works, work)
def f_X3_later (N : Nat) (works : Int32) (work : Nat → Int32) (x1 : Int32) : Option ((Int32) × (Nat → Int32)) := ifb (1600 ≤ works) (f_X3_later_30 N works work) (ix works 1600 (f_X3_later_30 N (works + 1) (upd work works.toNatClampNeg x1)))
variable {p : Program} {l : Launch} {e : Env} {s : State} {m : MethodId} {below : List Frame} {meth : Method} {c : Code} {args : Array Value} {x0 : Cond} {D : va_G} {cI cJ cB : ClassId} {sz N : Nat} {ws0 : va_W} {a0 a_kept a_spans a_work : Nat} {length : Int32} {z : (Int32) × (Nat → Int32)}
set_option maxHeartbeats 4000000 in
set_option maxRecDepth 100000 in
theorem w_X3_later_30 (CX : Cx p m c cX3_later 2 s args x0 RX3 meth none) (hK : va_K D vwCl (ty0 cI cJ cB) s) (hsz : s.heap.size = sz) : ∀ (works : Int32) (work : Nat → Int32) (H : Heap) (locs : List Loc) (ls : Array Slot), f_X3_later_30 N works work = some z → va_P D vwCl (ws_X3_later cI cJ cB a0 a_kept a_spans a_work length works work) H → va_D (va_A ws0 sz) (ws_X3_later cI cJ cB a0 a_kept a_spans a_work length works work) → va_S (va_A ws0 sz) s.heap H locs → lv_has ls 2 [] → W p l e rm_X3_later s m args below meth c H locs 0 0 (MQ below (gQ D sz ws0 (ws_X3_later cI cJ cB a0 a_kept a_spans a_work length z.1 z.2) none) args s 0 0 (va_A ws0 sz)) (F0 m 30 ls []) := by
  obtain ⟨F, hr, hlk, hNw⟩ := id CX
  have hx := F.1
  have hb := F.2.1
  have hown := F.2.2.2.1
  have hA : ∀ q, s.heap.size ≤ q → va_A ws0 sz q := fun q hq => Or.inr (hsz ▸ hq)
  intro works work H locs ls h hP hD hS hl
  unfold f_X3_later_30 at h
  obtain rfl := Option.some.inj h
  exact r_vret F hr hlk dX3_later_30 hsz hP hD hS
end G_X3_later
set_option maxHeartbeats 4000000 in
set_option maxRecDepth 100000 in
theorem c_X3_later (l : Launch) (D : va_G) (cI cJ cB : ClassId) (a0 a_kept a_spans a_work : Nat) (sz : Nat) (length : Int32) (works : Int32) (work : Nat → Int32) (x1 : Int32) (N : Nat) {z : (Int32) × (Nat → Int32)} (h : f_X3_later N works work x1 = some z) : Mg l yX3_later cX3_later 2 none rm_X3_later D (ty0 cI cJ cB) [.ref a0, .int x1] sz (ws_X3_later cI cJ cB a0 a_kept a_spans a_work length works work) none (ws_X3_later cI cJ cB a0 a_kept a_spans a_work length z.1 z.2) := by
  refine Mg.of (by decide) (Nat.le_of_ble_eq_true rfl) ?_
  intro p e s m below meth c CX hK hsz hP hD ls hl
  have CX : Cx p m c cX3_later 2 s ([.ref a0, .int x1] : List Value).toArray (Cond.code yX3_later cX3_later 2 none) RX3 meth none := CX
  obtain ⟨F, hr, hlk, hNw⟩ := id CX
  have hx := F.1
  have hb := F.2.1
  have hown := F.2.2.2.1
  have hl : lv_has ls 2 [(0, .ref a0), (1, .int x1)] := hl
  have hS : va_S (va_A (ws_X3_later cI cJ cB a0 a_kept a_spans a_work length works work) sz) s.heap s.heap [] := va_S.rf
  have hA : ∀ q, s.heap.size ≤ q → va_A (ws_X3_later cI cJ cB a0 a_kept a_spans a_work length works work) sz q := fun q hq => Or.inr (hsz ▸ hq)
  unfold f_X3_later at h
  refine lv_aload_n hx hb dX3_later_0 rfl (lv_at hl 0 rfl) ?_
  refine r_get F hK hP 0 4 rfl inW_X3 wm_252 rfl (by decide) rfl dX3_later_1 ?_
  refine lv_sipush (v := 1600) hx hb dX3_later_4 (by decide) ?_
  refine lv_icmp_ge (tgt := 30) hx hb dX3_later_7 (by decide) (fun c7 => ?_) (fun c7 => ?_)
  · have h := o_t c7 h
    exact w_X3_later_30 CX hK hsz works work _ _ _ h hP hD hS (lv_sub hl [] rfl)
  · have h := o_f c7 h
    refine lv_aload_n hx hb dX3_later_10 rfl (lv_at hl 0 rfl) ?_
    refine r_get F hK hP 0 2 rfl inW_X3 wm_249 rfl (by decide) rfl dX3_later_11 ?_
    refine lv_aload_n hx hb dX3_later_14 rfl (lv_at hl 0 rfl) ?_
    refine r_get F hK hP 0 4 rfl inW_X3 wm_252 rfl (by decide) rfl dX3_later_15 ?_
    refine lv_iload_n hx hb dX3_later_18 rfl (lv_at hl 1 rfl) ?_
    obtain ⟨hi19, h⟩ := o_ix h
    refine r_iast (wn := (ws_X3_later cI cJ cB a0 a_kept a_spans a_work length works (upd work works.toNatClampNeg x1))) F hK hP hD hS 1 0 hi19 rfl rfl rfl dX3_later_19 (fun H locs hP hD hS => ?_)
    refine lv_aload_n hx hb dX3_later_20 rfl (lv_at hl 0 rfl) ?_
    refine lv_dup hx hb dX3_later_21 rfl ?_
    refine r_get F hK hP 0 4 rfl inW_X3 wm_252 rfl (by decide) rfl dX3_later_22 ?_
    refine lv_iconst (v := 1) hx hb dX3_later_25 (by decide) ?_
    refine lv_iadd hx hb dX3_later_26 ?_
    refine r_put (wn := (ws_X3_later cI cJ cB a0 a_kept a_spans a_work length (works + 1) (upd work works.toNatClampNeg x1))) F hK hP hD hS 0 4 rfl inW_X3 wm_252 tyX3_ok nmX3 rfl rfl (by decide) rfl rfl (Nat.le_of_ble_eq_true rfl) rfl dX3_later_27 (fun H locs hP hD hS => ?_)
    exact w_X3_later_30 CX hK hsz (works + 1) (upd work works.toNatClampNeg x1) _ _ _ h hP hD hS (lv_sub hl [] rfl)
section G_X3_letter
abbrev ws_X3_letter (cI cJ cB : ClassId) (a0 a_spans a_work a_kept : Nat) (length : Int32) (works : Int32) (kept : Nat → Int32) : va_W := [(a0, .inr (5, [.ref a_kept, .ref a_spans, .ref a_work, .int length, .int works])), (a_kept, .inl (cB, 12000, .inl kept))]
abbrev rm_X3_letter : Room := { frames := 0, cells := 0, slots := 0, locals := 0 }
def f_X3_letter_21 (N : Nat) (length : Int32) (kept : Nat → Int32) : Option ((Int32) × (Nat → Int32)) := some (length + 1, kept)
def f_X3_letter (N : Nat) (length : Int32) (kept : Nat → Int32) (x1 : Int32) : Option ((Int32) × (Nat → Int32)) := ifb (12000 ≤ length) (f_X3_letter_21 N length kept) (ix length 12000 (f_X3_letter_21 N length (upd kept length.toNatClampNeg (vp_nar .byte x1.toInt8.toInt32))))
variable {p : Program} {l : Launch} {e : Env} {s : State} {m : MethodId} {below : List Frame} {meth : Method} {c : Code} {args : Array Value} {x0 : Cond} {D : va_G} {cI cJ cB : ClassId} {sz N : Nat} {ws0 : va_W} {a0 a_spans a_work a_kept : Nat} {works : Int32} {z : (Int32) × (Nat → Int32)}
set_option maxHeartbeats 4000000 in
set_option maxRecDepth 100000 in
theorem w_X3_letter_21 (CX : Cx p m c cX3_letter 2 s args x0 RX3 meth none) (hK : va_K D vwCl (ty0 cI cJ cB) s) (hsz : s.heap.size = sz) : ∀ (length : Int32) (kept : Nat → Int32) (H : Heap) (locs : List Loc) (ls : Array Slot), f_X3_letter_21 N length kept = some z → va_P D vwCl (ws_X3_letter cI cJ cB a0 a_spans a_work a_kept length works kept) H → va_D (va_A ws0 sz) (ws_X3_letter cI cJ cB a0 a_spans a_work a_kept length works kept) → va_S (va_A ws0 sz) s.heap H locs → lv_has ls 2 [(0, .ref a0)] → W p l e rm_X3_letter s m args below meth c H locs 0 0 (MQ below (gQ D sz ws0 (ws_X3_letter cI cJ cB a0 a_spans a_work a_kept z.1 works z.2) none) args s 0 0 (va_A ws0 sz)) (F0 m 21 ls []) := by
  obtain ⟨F, hr, hlk, hNw⟩ := id CX
  have hx := F.1
  have hb := F.2.1
  have hown := F.2.2.2.1
  have hA : ∀ q, s.heap.size ≤ q → va_A ws0 sz q := fun q hq => Or.inr (hsz ▸ hq)
  intro length kept H locs ls h hP hD hS hl
  unfold f_X3_letter_21 at h
  refine lv_aload_n hx hb dX3_letter_21 rfl (lv_at hl 0 rfl) ?_
  refine lv_dup hx hb dX3_letter_22 rfl ?_
  refine r_get F hK hP 0 3 rfl inW_X3 wm_250 rfl (by decide) rfl dX3_letter_23 ?_
  refine lv_iconst (v := 1) hx hb dX3_letter_26 (by decide) ?_
  refine lv_iadd hx hb dX3_letter_27 ?_
  refine r_put (wn := (ws_X3_letter cI cJ cB a0 a_spans a_work a_kept (length + 1) works kept)) F hK hP hD hS 0 3 rfl inW_X3 wm_250 tyX3_ok nmX3 rfl rfl (by decide) rfl rfl (Nat.le_of_ble_eq_true rfl) rfl dX3_letter_28 (fun H locs hP hD hS => ?_)
  obtain rfl := Option.some.inj h
  exact r_vret F hr hlk dX3_letter_31 hsz hP hD hS
end G_X3_letter
set_option maxHeartbeats 4000000 in
set_option maxRecDepth 100000 in
theorem c_X3_letter (l : Launch) (D : va_G) (cI cJ cB : ClassId) (a0 a_spans a_work a_kept : Nat) (sz : Nat) (length : Int32) (works : Int32) (kept : Nat → Int32) (x1 : Int32) (N : Nat) {z : (Int32) × (Nat → Int32)} (h : f_X3_letter N length kept x1 = some z) : Mg l yX3_letter cX3_letter 2 none rm_X3_letter D (ty0 cI cJ cB) [.ref a0, .int x1] sz (ws_X3_letter cI cJ cB a0 a_spans a_work a_kept length works kept) none (ws_X3_letter cI cJ cB a0 a_spans a_work a_kept z.1 works z.2) := by
  refine Mg.of (by decide) (Nat.le_of_ble_eq_true rfl) ?_
  intro p e s m below meth c CX hK hsz hP hD ls hl
  have CX : Cx p m c cX3_letter 2 s ([.ref a0, .int x1] : List Value).toArray (Cond.code yX3_letter cX3_letter 2 none) RX3 meth none := CX
  obtain ⟨F, hr, hlk, hNw⟩ := id CX
  have hx := F.1
  have hb := F.2.1
  have hown := F.2.2.2.1
  have hl : lv_has ls 2 [(0, .ref a0), (1, .int x1)] := hl
  have hS : va_S (va_A (ws_X3_letter cI cJ cB a0 a_spans a_work a_kept length works kept) sz) s.heap s.heap [] := va_S.rf
  have hA : ∀ q, s.heap.size ≤ q → va_A (ws_X3_letter cI cJ cB a0 a_spans a_work a_kept length works kept) sz q := fun q hq => Or.inr (hsz ▸ hq)
  unfold f_X3_letter at h
  refine lv_aload_n hx hb dX3_letter_0 rfl (lv_at hl 0 rfl) ?_
  refine r_get F hK hP 0 3 rfl inW_X3 wm_250 rfl (by decide) rfl dX3_letter_1 ?_
  refine lv_sipush (v := 12000) hx hb dX3_letter_4 (by decide) ?_
  refine lv_icmp_ge (tgt := 21) hx hb dX3_letter_7 (by decide) (fun c7 => ?_) (fun c7 => ?_)
  · have h := o_t c7 h
    exact w_X3_letter_21 CX hK hsz length kept _ _ _ h hP hD hS (lv_sub hl [0] rfl)
  · have h := o_f c7 h
    refine lv_aload_n hx hb dX3_letter_10 rfl (lv_at hl 0 rfl) ?_
    refine r_get F hK hP 0 0 rfl inW_X3 wm_247 rfl (by decide) rfl dX3_letter_11 ?_
    refine lv_aload_n hx hb dX3_letter_14 rfl (lv_at hl 0 rfl) ?_
    refine r_get F hK hP 0 3 rfl inW_X3 wm_250 rfl (by decide) rfl dX3_letter_15 ?_
    refine lv_iload_n hx hb dX3_letter_18 rfl (lv_at hl 1 rfl) ?_
    refine lv_i2b hx hb dX3_letter_19 rfl ?_
    obtain ⟨hi20, h⟩ := o_ix h
    refine r_bast (wn := (ws_X3_letter cI cJ cB a0 a_spans a_work a_kept length works (upd kept length.toNatClampNeg (vp_nar .byte x1.toInt8.toInt32)))) F hK hP hD hS 1 2 hi20 rfl rfl rfl dX3_letter_20 (fun H locs hP hD hS => ?_)
    exact w_X3_letter_21 CX hK hsz length (upd kept length.toNatClampNeg (vp_nar .byte x1.toInt8.toInt32)) _ _ _ h hP hD hS (lv_sub hl [0] rfl)
section G_X3_relation
abbrev ws_X3_relation (cI cJ cB : ClassId) (a0 a_spans a_work a_kept : Nat) (length : Int32) (works : Int32) (kept : Nat → Int32) : va_W := [(a0, .inr (5, [.ref a_kept, .ref a_spans, .ref a_work, .int length, .int works])), (a_kept, .inl (cB, 12000, .inl kept))]
abbrev rm_X3_relation : Room := { frames := 1, cells := 0, slots := 0, locals := 21 }
def f_X3_relation_36 (N : Nat) (length : Int32) (kept : Nat → Int32) : Option ((Int32) × (Nat → Int32)) := some (length, kept)
def f_X3_relation_25 (N : Nat) (length : Int32) (kept : Nat → Int32) (y1 : Int32) : Option ((Int32) × (Nat → Int32)) := ifb (y1 = 4) (f_X3_relation_36 N length kept) ((f_X3_letter N length kept 61).bind (fun z33 => f_X3_relation_36 N z33.1 z33.2))
def f_X3_relation (N : Nat) (length : Int32) (kept : Nat → Int32) (x1 : Int32) : Option ((Int32) × (Nat → Int32)) := ifb (x1 = 3) ((f_X3_letter N length kept 33).bind (fun z8 => f_X3_relation_25 N z8.1 z8.2 x1)) (ifb (x1 = 2) (f_X3_relation_25 N length kept x1) ((f_X3_letter N length kept 60).bind (fun z22 => f_X3_relation_25 N z22.1 z22.2 x1)))
variable {p : Program} {l : Launch} {e : Env} {s : State} {m : MethodId} {below : List Frame} {meth : Method} {c : Code} {args : Array Value} {x0 : Cond} {D : va_G} {cI cJ cB : ClassId} {sz N : Nat} {ws0 : va_W} {a0 a_spans a_work a_kept : Nat} {works : Int32} {z : (Int32) × (Nat → Int32)}
set_option maxHeartbeats 4000000 in
set_option maxRecDepth 100000 in
theorem w_X3_relation_36 (CX : Cx p m c cX3_relation 2 s args x0 RX3 meth none) (hK : va_K D vwCl (ty0 cI cJ cB) s) (hsz : s.heap.size = sz) : ∀ (length : Int32) (kept : Nat → Int32) (H : Heap) (locs : List Loc) (ls : Array Slot), f_X3_relation_36 N length kept = some z → va_P D vwCl (ws_X3_relation cI cJ cB a0 a_spans a_work a_kept length works kept) H → va_D (va_A ws0 sz) (ws_X3_relation cI cJ cB a0 a_spans a_work a_kept length works kept) → va_S (va_A ws0 sz) s.heap H locs → lv_has ls 2 [] → W p l e rm_X3_relation s m args below meth c H locs 0 0 (MQ below (gQ D sz ws0 (ws_X3_relation cI cJ cB a0 a_spans a_work a_kept z.1 works z.2) none) args s 0 0 (va_A ws0 sz)) (F0 m 36 ls []) := by
  obtain ⟨F, hr, hlk, hNw⟩ := id CX
  have hx := F.1
  have hb := F.2.1
  have hown := F.2.2.2.1
  have hA : ∀ q, s.heap.size ≤ q → va_A ws0 sz q := fun q hq => Or.inr (hsz ▸ hq)
  intro length kept H locs ls h hP hD hS hl
  unfold f_X3_relation_36 at h
  obtain rfl := Option.some.inj h
  exact r_vret F hr hlk dX3_relation_36 hsz hP hD hS
set_option maxHeartbeats 4000000 in
set_option maxRecDepth 100000 in
theorem w_X3_relation_25 (CX : Cx p m c cX3_relation 2 s args x0 RX3 meth none) (hK : va_K D vwCl (ty0 cI cJ cB) s) (hsz : s.heap.size = sz) : ∀ (length : Int32) (kept : Nat → Int32) (y1 : Int32) (H : Heap) (locs : List Loc) (ls : Array Slot), f_X3_relation_25 N length kept y1 = some z → va_P D vwCl (ws_X3_relation cI cJ cB a0 a_spans a_work a_kept length works kept) H → va_D (va_A ws0 sz) (ws_X3_relation cI cJ cB a0 a_spans a_work a_kept length works kept) → va_S (va_A ws0 sz) s.heap H locs → lv_has ls 2 [(0, .ref a0), (1, .int y1)] → W p l e rm_X3_relation s m args below meth c H locs 0 0 (MQ below (gQ D sz ws0 (ws_X3_relation cI cJ cB a0 a_spans a_work a_kept z.1 works z.2) none) args s 0 0 (va_A ws0 sz)) (F0 m 25 ls []) := by
  obtain ⟨F, hr, hlk, hNw⟩ := id CX
  have hx := F.1
  have hb := F.2.1
  have hown := F.2.2.2.1
  have hA : ∀ q, s.heap.size ≤ q → va_A ws0 sz q := fun q hq => Or.inr (hsz ▸ hq)
  intro length kept y1 H locs ls h hP hD hS hl
  unfold f_X3_relation_25 at h
  refine lv_iload_n hx hb dX3_relation_25 rfl (lv_at hl 1 rfl) ?_
  refine lv_iconst (v := 4) hx hb dX3_relation_26 (by decide) ?_
  refine lv_icmp_eq (tgt := 36) hx hb dX3_relation_27 (by decide) (fun c27 => ?_) (fun c27 => ?_)
  · have h := o_t c27 h
    exact w_X3_relation_36 CX hK hsz length kept _ _ _ h hP hD hS (lv_sub hl [] rfl)
  · have h := o_f c27 h
    refine lv_aload_n hx hb dX3_relation_30 rfl (lv_at hl 0 rfl) ?_
    refine lv_bipush (v := 61) hx hb dX3_relation_31 (by decide) ?_
    obtain ⟨z33, hz33, h⟩ := o_b h
    refine k_v (wn := (ws_X3_relation cI cJ cB a0 a_spans a_work a_kept z33.1 works z33.2)) (As := [.int 61]) (rest := []) F hNw hK hP hD hS hA (c_X3_letter l D cI cJ cB a0 a_spans a_work a_kept _ length works kept 61 N hz33) wm_940 cv_X3_letter [0, 1] [] [0, 1] (⟨rfl, rfl, rfl, by decide, rfl⟩ : Ix [0, 1] [] [0, 1] 2) rfl rfl rfl rfl rfl rfl ⟨rfl, rfl, by decide, by decide⟩ hl.1 rfl (Nat.le_of_ble_eq_true rfl) ⟨Nat.zero_le _, Nat.zero_le _⟩ dX3_relation_33 (fun H locs hP hD hS => ?_)
    exact w_X3_relation_36 CX hK hsz z33.1 z33.2 _ _ _ h hP hD hS (lv_sub hl [] rfl)
end G_X3_relation
set_option maxHeartbeats 4000000 in
set_option maxRecDepth 100000 in
theorem c_X3_relation (l : Launch) (D : va_G) (cI cJ cB : ClassId) (a0 a_spans a_work a_kept : Nat) (sz : Nat) (length : Int32) (works : Int32) (kept : Nat → Int32) (x1 : Int32) (N : Nat) {z : (Int32) × (Nat → Int32)} (h : f_X3_relation N length kept x1 = some z) : Mg l yX3_relation cX3_relation 2 none rm_X3_relation D (ty0 cI cJ cB) [.ref a0, .int x1] sz (ws_X3_relation cI cJ cB a0 a_spans a_work a_kept length works kept) none (ws_X3_relation cI cJ cB a0 a_spans a_work a_kept z.1 works z.2) := by
  refine Mg.of (by decide) (Nat.le_of_ble_eq_true rfl) ?_
  intro p e s m below meth c CX hK hsz hP hD ls hl
  have CX : Cx p m c cX3_relation 2 s ([.ref a0, .int x1] : List Value).toArray (Cond.code yX3_relation cX3_relation 2 none) RX3 meth none := CX
  obtain ⟨F, hr, hlk, hNw⟩ := id CX
  have hx := F.1
  have hb := F.2.1
  have hown := F.2.2.2.1
  have hl : lv_has ls 2 [(0, .ref a0), (1, .int x1)] := hl
  have hS : va_S (va_A (ws_X3_relation cI cJ cB a0 a_spans a_work a_kept length works kept) sz) s.heap s.heap [] := va_S.rf
  have hA : ∀ q, s.heap.size ≤ q → va_A (ws_X3_relation cI cJ cB a0 a_spans a_work a_kept length works kept) sz q := fun q hq => Or.inr (hsz ▸ hq)
  unfold f_X3_relation at h
  refine lv_iload_n hx hb dX3_relation_0 rfl (lv_at hl 1 rfl) ?_
  refine lv_iconst (v := 3) hx hb dX3_relation_1 (by decide) ?_
  refine lv_icmp_ne (tgt := 14) hx hb dX3_relation_2 (by decide) (fun c2 => ?_) (fun c2 => ?_)
  · have h := o_f c2 h
    refine lv_iload_n hx hb dX3_relation_14 rfl (lv_at hl 1 rfl) ?_
    refine lv_iconst (v := 2) hx hb dX3_relation_15 (by decide) ?_
    refine lv_icmp_eq (tgt := 25) hx hb dX3_relation_16 (by decide) (fun c16 => ?_) (fun c16 => ?_)
    · have h := o_t c16 h
      exact w_X3_relation_25 CX hK hsz length kept x1 _ _ _ h hP hD hS (lv_sub hl [0, 1] rfl)
    · have h := o_f c16 h
      refine lv_aload_n hx hb dX3_relation_19 rfl (lv_at hl 0 rfl) ?_
      refine lv_bipush (v := 60) hx hb dX3_relation_20 (by decide) ?_
      obtain ⟨z22, hz22, h⟩ := o_b h
      refine k_v (wn := (ws_X3_relation cI cJ cB a0 a_spans a_work a_kept z22.1 works z22.2)) (As := [.int 60]) (rest := []) F hNw hK hP hD hS hA (c_X3_letter l D cI cJ cB a0 a_spans a_work a_kept _ length works kept 60 N hz22) wm_940 cv_X3_letter [0, 1] [] [0, 1] (⟨rfl, rfl, rfl, by decide, rfl⟩ : Ix [0, 1] [] [0, 1] 2) rfl rfl rfl rfl rfl rfl ⟨rfl, rfl, by decide, by decide⟩ hl.1 rfl (Nat.le_of_ble_eq_true rfl) ⟨Nat.zero_le _, Nat.zero_le _⟩ dX3_relation_22 (fun H locs hP hD hS => ?_)
      exact w_X3_relation_25 CX hK hsz z22.1 z22.2 x1 _ _ _ h hP hD hS (lv_sub hl [0, 1] rfl)
  · have h := o_t c2 h
    refine lv_aload_n hx hb dX3_relation_5 rfl (lv_at hl 0 rfl) ?_
    refine lv_bipush (v := 33) hx hb dX3_relation_6 (by decide) ?_
    obtain ⟨z8, hz8, h⟩ := o_b h
    refine k_v (wn := (ws_X3_relation cI cJ cB a0 a_spans a_work a_kept z8.1 works z8.2)) (As := [.int 33]) (rest := []) F hNw hK hP hD hS hA (c_X3_letter l D cI cJ cB a0 a_spans a_work a_kept _ length works kept 33 N hz8) wm_940 cv_X3_letter [0, 1] [] [0, 1] (⟨rfl, rfl, rfl, by decide, rfl⟩ : Ix [0, 1] [] [0, 1] 2) rfl rfl rfl rfl rfl rfl ⟨rfl, rfl, by decide, by decide⟩ hl.1 rfl (Nat.le_of_ble_eq_true rfl) ⟨Nat.zero_le _, Nat.zero_le _⟩ dX3_relation_8 (fun H locs hP hD hS => ?_)
    refine lv_goto (tgt := 25) hx hb dX3_relation_11 (by decide) ?_
    exact w_X3_relation_25 CX hK hsz z8.1 z8.2 x1 _ _ _ h hP hD hS (lv_sub hl [0, 1] rfl)
section G_X3_digits
abbrev ws_X3_digits (cI cJ cB : ClassId) (a0 a_spans a_work a_kept : Nat) (length : Int32) (works : Int32) (kept : Nat → Int32) : va_W := [(a0, .inr (5, [.ref a_kept, .ref a_spans, .ref a_work, .int length, .int works])), (a_kept, .inl (cB, 12000, .inl kept))]
abbrev rm_X3_digits : Room := { frames := 1, cells := 0, slots := 0, locals := 21 }
def f_X3_digits_43 (K5 : Int32 → (Nat → Int32) → Int32 → Int32 → Int32 → Option ((Int32) × (Nat → Int32))) (N : Nat) (length : Int32) (kept : Nat → Int32) (y1 : Int32) (y2 : Int32) (y3 : Int32) : Option ((Int32) × (Nat → Int32)) := K5 length kept y1 y2 (y3 / 10)
def f_X3_digits_28 (K5 : Int32 → (Nat → Int32) → Int32 → Int32 → Int32 → Option ((Int32) × (Nat → Int32))) (N : Nat) (length : Int32) (kept : Nat → Int32) (y1 : Int32) (y3 : Int32) (y4 : Int32) (s0 : Int32) (s1 : Int32) : Option ((Int32) × (Nat → Int32)) := ifb ((s0 ||| s1) = 0) (f_X3_digits_43 K5 N length kept y1 (s0 ||| s1) y3) ((f_X3_letter N length kept (48 + y4)).bind (fun z40 => f_X3_digits_43 K5 N z40.1 z40.2 y1 (s0 ||| s1) y3))
def f_X3_digits_5 (N : Nat) : Nat → Int32 → (Nat → Int32) → Int32 → Int32 → Int32 → Option ((Int32) × (Nat → Int32))
  | 0 => fun _ _ _ _ _ => none
  | n + 1 => fun length kept y1 y2 y3 => ifb (y3 ≤ 0) (some (length, kept)) (ckp (¬ y3 = 0) (ifb (((y1 / y3) - (y1 / y3) / 10 * 10) = 0) (f_X3_digits_28 (f_X3_digits_5 N n) N length kept y1 y3 ((y1 / y3) - (y1 / y3) / 10 * 10) y2 0) (f_X3_digits_28 (f_X3_digits_5 N n) N length kept y1 y3 ((y1 / y3) - (y1 / y3) / 10 * 10) y2 1)))
def f_X3_digits (N : Nat) (length : Int32) (kept : Nat → Int32) (x1 : Int32) : Option ((Int32) × (Nat → Int32)) := f_X3_digits_5 N N length kept x1 0 1000000000
variable {p : Program} {l : Launch} {e : Env} {s : State} {m : MethodId} {below : List Frame} {meth : Method} {c : Code} {args : Array Value} {x0 : Cond} {D : va_G} {cI cJ cB : ClassId} {sz N : Nat} {ws0 : va_W} {a0 a_spans a_work a_kept : Nat} {works : Int32} {z : (Int32) × (Nat → Int32)}
set_option maxHeartbeats 4000000 in
set_option maxRecDepth 100000 in
theorem w_X3_digits_43 (CX : Cx p m c cX3_digits 5 s args x0 RX3 meth none) (hK : va_K D vwCl (ty0 cI cJ cB) s) (hsz : s.heap.size = sz) {K5 : Int32 → (Nat → Int32) → Int32 → Int32 → Int32 → Option ((Int32) × (Nat → Int32))} (hK5 : ∀ (length : Int32) (kept : Nat → Int32) (y1 : Int32) (y2 : Int32) (y3 : Int32) (H : Heap) (locs : List Loc) (ls : Array Slot), K5 length kept y1 y2 y3 = some z → va_P D vwCl (ws_X3_digits cI cJ cB a0 a_spans a_work a_kept length works kept) H → va_D (va_A ws0 sz) (ws_X3_digits cI cJ cB a0 a_spans a_work a_kept length works kept) → va_S (va_A ws0 sz) s.heap H locs → lv_has ls 5 [(0, .ref a0), (1, .int y1), (2, .int y2), (3, .int y3)] → W p l e rm_X3_digits s m args below meth c H locs 0 0 (MQ below (gQ D sz ws0 (ws_X3_digits cI cJ cB a0 a_spans a_work a_kept z.1 works z.2) none) args s 0 0 (va_A ws0 sz)) (F0 m 5 ls [])) : ∀ (length : Int32) (kept : Nat → Int32) (y1 : Int32) (y2 : Int32) (y3 : Int32) (H : Heap) (locs : List Loc) (ls : Array Slot), f_X3_digits_43 K5 N length kept y1 y2 y3 = some z → va_P D vwCl (ws_X3_digits cI cJ cB a0 a_spans a_work a_kept length works kept) H → va_D (va_A ws0 sz) (ws_X3_digits cI cJ cB a0 a_spans a_work a_kept length works kept) → va_S (va_A ws0 sz) s.heap H locs → lv_has ls 5 [(0, .ref a0), (1, .int y1), (2, .int y2), (3, .int y3)] → W p l e rm_X3_digits s m args below meth c H locs 0 0 (MQ below (gQ D sz ws0 (ws_X3_digits cI cJ cB a0 a_spans a_work a_kept z.1 works z.2) none) args s 0 0 (va_A ws0 sz)) (F0 m 43 ls []) := by
  obtain ⟨F, hr, hlk, hNw⟩ := id CX
  have hx := F.1
  have hb := F.2.1
  have hown := F.2.2.2.1
  have hA : ∀ q, s.heap.size ≤ q → va_A ws0 sz q := fun q hq => Or.inr (hsz ▸ hq)
  intro length kept y1 y2 y3 H locs ls h hP hD hS hl
  unfold f_X3_digits_43 at h
  refine lv_iload_n hx hb dX3_digits_43 rfl (lv_at hl 3 rfl) ?_
  refine lv_bipush (v := 10) hx hb dX3_digits_44 (by decide) ?_
  refine lv_idiv hx hb dX3_digits_46 (by decide) ?_
  refine lv_istore_n (lv' := [(3, .int (y3 / 10)), (0, .ref a0), (1, .int y1), (2, .int y2)]) hx hb dX3_digits_47 rfl hl (by decide) rfl (fun ls hl => ?_)
  refine lv_goto (tgt := 5) hx hb dX3_digits_48 (by decide) ?_
  exact hK5 length kept y1 y2 (y3 / 10) _ _ _ h hP hD hS (lv_sub hl [1, 2, 3, 0] rfl)
set_option maxHeartbeats 4000000 in
set_option maxRecDepth 100000 in
theorem w_X3_digits_28 (CX : Cx p m c cX3_digits 5 s args x0 RX3 meth none) (hK : va_K D vwCl (ty0 cI cJ cB) s) (hsz : s.heap.size = sz) {K5 : Int32 → (Nat → Int32) → Int32 → Int32 → Int32 → Option ((Int32) × (Nat → Int32))} (hK5 : ∀ (length : Int32) (kept : Nat → Int32) (y1 : Int32) (y2 : Int32) (y3 : Int32) (H : Heap) (locs : List Loc) (ls : Array Slot), K5 length kept y1 y2 y3 = some z → va_P D vwCl (ws_X3_digits cI cJ cB a0 a_spans a_work a_kept length works kept) H → va_D (va_A ws0 sz) (ws_X3_digits cI cJ cB a0 a_spans a_work a_kept length works kept) → va_S (va_A ws0 sz) s.heap H locs → lv_has ls 5 [(0, .ref a0), (1, .int y1), (2, .int y2), (3, .int y3)] → W p l e rm_X3_digits s m args below meth c H locs 0 0 (MQ below (gQ D sz ws0 (ws_X3_digits cI cJ cB a0 a_spans a_work a_kept z.1 works z.2) none) args s 0 0 (va_A ws0 sz)) (F0 m 5 ls [])) : ∀ (length : Int32) (kept : Nat → Int32) (y1 : Int32) (y3 : Int32) (y4 : Int32) (s0 : Int32) (s1 : Int32) (H : Heap) (locs : List Loc) (ls : Array Slot), f_X3_digits_28 K5 N length kept y1 y3 y4 s0 s1 = some z → va_P D vwCl (ws_X3_digits cI cJ cB a0 a_spans a_work a_kept length works kept) H → va_D (va_A ws0 sz) (ws_X3_digits cI cJ cB a0 a_spans a_work a_kept length works kept) → va_S (va_A ws0 sz) s.heap H locs → lv_has ls 5 [(0, .ref a0), (1, .int y1), (3, .int y3), (4, .int y4)] → W p l e rm_X3_digits s m args below meth c H locs 0 0 (MQ below (gQ D sz ws0 (ws_X3_digits cI cJ cB a0 a_spans a_work a_kept z.1 works z.2) none) args s 0 0 (va_A ws0 sz)) (F0 m 28 ls [.int s1, .int s0]) := by
  obtain ⟨F, hr, hlk, hNw⟩ := id CX
  have hx := F.1
  have hb := F.2.1
  have hown := F.2.2.2.1
  have hA : ∀ q, s.heap.size ≤ q → va_A ws0 sz q := fun q hq => Or.inr (hsz ▸ hq)
  intro length kept y1 y3 y4 s0 s1 H locs ls h hP hD hS hl
  unfold f_X3_digits_28 at h
  refine lv_ior hx hb dX3_digits_28 ?_
  refine lv_istore_n (lv' := [(2, .int (s0 ||| s1)), (0, .ref a0), (1, .int y1), (3, .int y3), (4, .int y4)]) hx hb dX3_digits_29 rfl hl (by decide) rfl (fun ls hl => ?_)
  refine lv_iload_n hx hb dX3_digits_30 rfl (lv_at hl 0 rfl) ?_
  refine lv_if_eq (tgt := 43) hx hb dX3_digits_31 (by decide) (fun c31 => ?_) (fun c31 => ?_)
  · have h := o_t c31 h
    exact w_X3_digits_43 CX hK hsz (hK5 := hK5) length kept y1 (s0 ||| s1) y3 _ _ _ h hP hD hS (lv_sub hl [1, 2, 0, 3] rfl)
  · have h := o_f c31 h
    refine lv_aload_n hx hb dX3_digits_34 rfl (lv_at hl 1 rfl) ?_
    refine lv_bipush (v := 48) hx hb dX3_digits_35 (by decide) ?_
    refine lv_iload hx hb dX3_digits_37 (lv_at hl 4 rfl) ?_
    refine lv_iadd hx hb dX3_digits_39 ?_
    obtain ⟨z40, hz40, h⟩ := o_b h
    refine k_v (wn := (ws_X3_digits cI cJ cB a0 a_spans a_work a_kept z40.1 works z40.2)) (As := [.int (48 + y4)]) (rest := []) F hNw hK hP hD hS hA (c_X3_letter l D cI cJ cB a0 a_spans a_work a_kept _ length works kept (48 + y4) N hz40) wm_940 cv_X3_letter [0, 1] [] [0, 1] (⟨rfl, rfl, rfl, by decide, rfl⟩ : Ix [0, 1] [] [0, 1] 2) rfl rfl rfl rfl rfl rfl ⟨rfl, rfl, by decide, by decide⟩ hl.1 rfl (Nat.le_of_ble_eq_true rfl) ⟨Nat.zero_le _, Nat.zero_le _⟩ dX3_digits_40 (fun H locs hP hD hS => ?_)
    exact w_X3_digits_43 CX hK hsz (hK5 := hK5) z40.1 z40.2 y1 (s0 ||| s1) y3 _ _ _ h hP hD hS (lv_sub hl [1, 2, 0, 3] rfl)
set_option maxHeartbeats 4000000 in
set_option maxRecDepth 100000 in
theorem w_X3_digits_5 (CX : Cx p m c cX3_digits 5 s args x0 RX3 meth none) (hK : va_K D vwCl (ty0 cI cJ cB) s) (hsz : s.heap.size = sz) : ∀ (n : Nat), ∀ (length : Int32) (kept : Nat → Int32) (y1 : Int32) (y2 : Int32) (y3 : Int32) (H : Heap) (locs : List Loc) (ls : Array Slot), f_X3_digits_5 N n length kept y1 y2 y3 = some z → va_P D vwCl (ws_X3_digits cI cJ cB a0 a_spans a_work a_kept length works kept) H → va_D (va_A ws0 sz) (ws_X3_digits cI cJ cB a0 a_spans a_work a_kept length works kept) → va_S (va_A ws0 sz) s.heap H locs → lv_has ls 5 [(0, .ref a0), (1, .int y1), (2, .int y2), (3, .int y3)] → W p l e rm_X3_digits s m args below meth c H locs 0 0 (MQ below (gQ D sz ws0 (ws_X3_digits cI cJ cB a0 a_spans a_work a_kept z.1 works z.2) none) args s 0 0 (va_A ws0 sz)) (F0 m 5 ls []) := by
  obtain ⟨F, hr, hlk, hNw⟩ := id CX
  have hx := F.1
  have hb := F.2.1
  have hown := F.2.2.2.1
  have hA : ∀ q, s.heap.size ≤ q → va_A ws0 sz q := fun q hq => Or.inr (hsz ▸ hq)
  intro n
  induction n with
  | zero =>
    intro length kept y1 y2 y3 H locs ls h
    cases h
  | succ n ih =>
    intro length kept y1 y2 y3 H locs ls h hP hD hS hl
    unfold f_X3_digits_5 at h
    refine lv_iload_n hx hb dX3_digits_5 rfl (lv_at hl 3 rfl) ?_
    refine lv_if_le (tgt := 51) hx hb dX3_digits_6 (by decide) (fun c6 => ?_) (fun c6 => ?_)
    · have h := o_t c6 h
      obtain rfl := Option.some.inj h
      exact r_vret F hr hlk dX3_digits_51 hsz hP hD hS
    · have h := o_f c6 h
      refine lv_iload_n hx hb dX3_digits_9 rfl (lv_at hl 1 rfl) ?_
      refine lv_iload_n hx hb dX3_digits_10 rfl (lv_at hl 3 rfl) ?_
      obtain ⟨hc11, h⟩ := o_c h
      refine lv_idiv hx hb dX3_digits_11 hc11 ?_
      refine lv_bipush (v := 10) hx hb dX3_digits_12 (by decide) ?_
      refine lv_irem hx hb dX3_digits_14 (by decide) ?_
      refine lv_istore (lv' := [(4, .int ((y1 / y3) - (y1 / y3) / 10 * 10)), (0, .ref a0), (1, .int y1), (2, .int y2), (3, .int y3)]) hx hb dX3_digits_15 hl (by decide) rfl (fun ls hl => ?_)
      refine lv_iload_n hx hb dX3_digits_17 rfl (lv_at hl 3 rfl) ?_
      refine lv_iload hx hb dX3_digits_18 (lv_at hl 0 rfl) ?_
      refine lv_if_eq (tgt := 27) hx hb dX3_digits_20 (by decide) (fun c20 => ?_) (fun c20 => ?_)
      · have h := o_t c20 h
        refine lv_iconst (v := 0) hx hb dX3_digits_27 (by decide) ?_
        exact w_X3_digits_28 CX hK hsz (hK5 := ih) length kept y1 y3 ((y1 / y3) - (y1 / y3) / 10 * 10) y2 0 _ _ _ h hP hD hS (lv_sub hl [1, 2, 4, 0] rfl)
      · have h := o_f c20 h
        refine lv_iconst (v := 1) hx hb dX3_digits_23 (by decide) ?_
        refine lv_goto (tgt := 28) hx hb dX3_digits_24 (by decide) ?_
        exact w_X3_digits_28 CX hK hsz (hK5 := ih) length kept y1 y3 ((y1 / y3) - (y1 / y3) / 10 * 10) y2 1 _ _ _ h hP hD hS (lv_sub hl [1, 2, 4, 0] rfl)
end G_X3_digits
set_option maxHeartbeats 4000000 in
set_option maxRecDepth 100000 in
theorem c_X3_digits (l : Launch) (D : va_G) (cI cJ cB : ClassId) (a0 a_spans a_work a_kept : Nat) (sz : Nat) (length : Int32) (works : Int32) (kept : Nat → Int32) (x1 : Int32) (N : Nat) {z : (Int32) × (Nat → Int32)} (h : f_X3_digits N length kept x1 = some z) : Mg l yX3_digits cX3_digits 5 none rm_X3_digits D (ty0 cI cJ cB) [.ref a0, .int x1] sz (ws_X3_digits cI cJ cB a0 a_spans a_work a_kept length works kept) none (ws_X3_digits cI cJ cB a0 a_spans a_work a_kept z.1 works z.2) := by
  refine Mg.of (by decide) (Nat.le_of_ble_eq_true rfl) ?_
  intro p e s m below meth c CX hK hsz hP hD ls hl
  have CX : Cx p m c cX3_digits 5 s ([.ref a0, .int x1] : List Value).toArray (Cond.code yX3_digits cX3_digits 5 none) RX3 meth none := CX
  obtain ⟨F, hr, hlk, hNw⟩ := id CX
  have hx := F.1
  have hb := F.2.1
  have hown := F.2.2.2.1
  have hl : lv_has ls 5 [(0, .ref a0), (1, .int x1)] := hl
  have hS : va_S (va_A (ws_X3_digits cI cJ cB a0 a_spans a_work a_kept length works kept) sz) s.heap s.heap [] := va_S.rf
  have hA : ∀ q, s.heap.size ≤ q → va_A (ws_X3_digits cI cJ cB a0 a_spans a_work a_kept length works kept) sz q := fun q hq => Or.inr (hsz ▸ hq)
  unfold f_X3_digits at h
  refine lv_iconst (v := 0) hx hb dX3_digits_0 (by decide) ?_
  refine lv_istore_n (lv' := [(2, .int 0), (0, .ref a0), (1, .int x1)]) hx hb dX3_digits_1 rfl hl (by decide) rfl (fun ls hl => ?_)
  refine lv_ldc (v := 1000000000) hx hb hown (F.2.2.2.2 _ (q_in wm_959)) dX3_digits_2 ?_
  refine lv_istore_n (lv' := [(3, .int 1000000000), (2, .int 0), (0, .ref a0), (1, .int x1)]) hx hb dX3_digits_4 rfl hl (by decide) rfl (fun ls hl => ?_)
  exact w_X3_digits_5 CX hK hsz N length kept x1 0 1000000000 _ _ _ h hP hD hS (lv_sub hl [2, 3, 1, 0] rfl)
section G_X3_atom
abbrev ws_X3_atom (cI cJ cB : ClassId) (a0 a_spans a_work a_kept a_p1 a_p1_cells : Nat) (length : Int32) (works : Int32) (kept : Nat → Int32) (p1_rows : Int32) (p1_cells : Nat → Int32) (p1_cells_n : Nat) : va_W := [(a0, .inr (5, [.ref a_kept, .ref a_spans, .ref a_work, .int length, .int works])), (a_kept, .inl (cB, 12000, .inl kept)), (a_p1, .inr (7, [.ref a_p1_cells, .int p1_rows])), (a_p1_cells, .inl (cI, p1_cells_n, .inl p1_cells))]
abbrev rm_X3_atom : Room := { frames := 2, cells := 0, slots := 0, locals := 45 }
def f_X3_atom_99 (K8 : Int32 → (Nat → Int32) → Int32 → (Nat → Int32) → Nat → Int32 → Int32 → Int32 → Option ((Int32) × (Nat → Int32))) (N : Nat) (length : Int32) (kept : Nat → Int32) (p1_rows : Int32) (p1_cells : Nat → Int32) (p1_cells_n : Nat) (y2 : Int32) (y3 : Int32) (y4 : Int32) : Option ((Int32) × (Nat → Int32)) := K8 length kept p1_rows p1_cells p1_cells_n y2 y3 (y4 + 1)
def f_X3_atom_83 (K8 : Int32 → (Nat → Int32) → Int32 → (Nat → Int32) → Nat → Int32 → Int32 → Int32 → Option ((Int32) × (Nat → Int32))) (N : Nat) (length : Int32) (kept : Nat → Int32) (p1_rows : Int32) (p1_cells : Nat → Int32) (p1_cells_n : Nat) (y2 : Int32) (y3 : Int32) (y4 : Int32) : Option ((Int32) × (Nat → Int32)) := ifb (8 ≤ y4) (f_X3_atom_99 K8 N length kept p1_rows p1_cells p1_cells_n y2 y3 y4) ((f_X3_letter N length kept (97 + y4)).bind (fun z96 => f_X3_atom_99 K8 N z96.1 z96.2 p1_rows p1_cells p1_cells_n y2 y3 y4))
def f_X3_atom_77 (K8 : Int32 → (Nat → Int32) → Int32 → (Nat → Int32) → Nat → Int32 → Int32 → Int32 → Option ((Int32) × (Nat → Int32))) (N : Nat) (length : Int32) (kept : Nat → Int32) (p1_rows : Int32) (p1_cells : Nat → Int32) (p1_cells_n : Nat) (y2 : Int32) (y3 : Int32) (y4 : Int32) (y6 : Int32) : Option ((Int32) × (Nat → Int32)) := (f_X3_digits N length kept y6).bind (fun z80 => f_X3_atom_83 K8 N z80.1 z80.2 p1_rows p1_cells p1_cells_n y2 y3 y4)
def f_X3_atom_57 (K8 : Int32 → (Nat → Int32) → Int32 → (Nat → Int32) → Nat → Int32 → Int32 → Int32 → Option ((Int32) × (Nat → Int32))) (N : Nat) (length : Int32) (kept : Nat → Int32) (p1_rows : Int32) (p1_cells : Nat → Int32) (p1_cells_n : Nat) (y2 : Int32) (y3 : Int32) (y4 : Int32) (y5 : Int32) : Option ((Int32) × (Nat → Int32)) := ifb ((jabs y5) = 1) (ifb (y4 = 8) (f_X3_atom_77 K8 N length kept p1_rows p1_cells p1_cells_n y2 y3 y4 (jabs y5)) (f_X3_atom_83 K8 N length kept p1_rows p1_cells p1_cells_n y2 y3 y4)) (f_X3_atom_77 K8 N length kept p1_rows p1_cells p1_cells_n y2 y3 y4 (jabs y5))
def f_X3_atom_8 (N : Nat) : Nat → Int32 → (Nat → Int32) → Int32 → (Nat → Int32) → Nat → Int32 → Int32 → Int32 → Option ((Int32) × (Nat → Int32))
  | 0 => fun _ _ _ _ _ _ _ _ => none
  | n + 1 => fun length kept p1_rows p1_cells p1_cells_n y2 y3 y4 => ifb (9 ≤ y4) ((f_X5_kind N p1_rows p1_cells p1_cells_n y2).bind (fun z108 => (f_X3_relation N length kept z108).bind (fun z111 => (f_X3_letter N z111.1 z111.2 48).bind (fun z117 => some (z117.1, z117.2))))) ((f_X5_number N p1_rows p1_cells p1_cells_n y2 y4).bind (fun z19 => ifb (z19 = 0) (f_X3_atom_99 (f_X3_atom_8 N n) N length kept p1_rows p1_cells p1_cells_n y2 y3 y4) (ifb (0 ≤ z19) (ifb (length ≤ y3) (f_X3_atom_57 (f_X3_atom_8 N n) N length kept p1_rows p1_cells p1_cells_n y2 y3 y4 z19) ((f_X3_letter N length kept 43).bind (fun z54 => f_X3_atom_57 (f_X3_atom_8 N n) N z54.1 z54.2 p1_rows p1_cells p1_cells_n y2 y3 y4 z19))) ((f_X3_letter N length kept 45).bind (fun z37 => f_X3_atom_57 (f_X3_atom_8 N n) N z37.1 z37.2 p1_rows p1_cells p1_cells_n y2 y3 y4 z19)))))
def f_X3_atom (N : Nat) (length : Int32) (kept : Nat → Int32) (p1_rows : Int32) (p1_cells : Nat → Int32) (p1_cells_n : Nat) (x2 : Int32) : Option ((Int32) × (Nat → Int32)) := f_X3_atom_8 N N length kept p1_rows p1_cells p1_cells_n x2 length 0
variable {p : Program} {l : Launch} {e : Env} {s : State} {m : MethodId} {below : List Frame} {meth : Method} {c : Code} {args : Array Value} {x0 : Cond} {D : va_G} {cI cJ cB : ClassId} {sz N : Nat} {ws0 : va_W} {a0 a_spans a_work a_kept a_p1 a_p1_cells : Nat} {works : Int32} {p1_rows : Int32} {p1_cells : Nat → Int32} {p1_cells_n : Nat} {z : (Int32) × (Nat → Int32)}
set_option maxHeartbeats 4000000 in
set_option maxRecDepth 100000 in
theorem w_X3_atom_99 (CX : Cx p m c cX3_atom 7 s args x0 RX3 meth none) (hK : va_K D vwCl (ty0 cI cJ cB) s) (hsz : s.heap.size = sz) {K8 : Int32 → (Nat → Int32) → Int32 → (Nat → Int32) → Nat → Int32 → Int32 → Int32 → Option ((Int32) × (Nat → Int32))} (hK8 : ∀ (length : Int32) (kept : Nat → Int32) (y2 : Int32) (y3 : Int32) (y4 : Int32) (H : Heap) (locs : List Loc) (ls : Array Slot), K8 length kept p1_rows p1_cells p1_cells_n y2 y3 y4 = some z → va_P D vwCl (ws_X3_atom cI cJ cB a0 a_spans a_work a_kept a_p1 a_p1_cells length works kept p1_rows p1_cells p1_cells_n) H → va_D (va_A ws0 sz) (ws_X3_atom cI cJ cB a0 a_spans a_work a_kept a_p1 a_p1_cells length works kept p1_rows p1_cells p1_cells_n) → va_S (va_A ws0 sz) s.heap H locs → lv_has ls 7 [(0, .ref a0), (1, .ref a_p1), (2, .int y2), (3, .int y3), (4, .int y4)] → W p l e rm_X3_atom s m args below meth c H locs 0 0 (MQ below (gQ D sz ws0 (ws_X3_atom cI cJ cB a0 a_spans a_work a_kept a_p1 a_p1_cells z.1 works z.2 p1_rows p1_cells p1_cells_n) none) args s 0 0 (va_A ws0 sz)) (F0 m 8 ls [])) : ∀ (length : Int32) (kept : Nat → Int32) (y2 : Int32) (y3 : Int32) (y4 : Int32) (H : Heap) (locs : List Loc) (ls : Array Slot), f_X3_atom_99 K8 N length kept p1_rows p1_cells p1_cells_n y2 y3 y4 = some z → va_P D vwCl (ws_X3_atom cI cJ cB a0 a_spans a_work a_kept a_p1 a_p1_cells length works kept p1_rows p1_cells p1_cells_n) H → va_D (va_A ws0 sz) (ws_X3_atom cI cJ cB a0 a_spans a_work a_kept a_p1 a_p1_cells length works kept p1_rows p1_cells p1_cells_n) → va_S (va_A ws0 sz) s.heap H locs → lv_has ls 7 [(0, .ref a0), (1, .ref a_p1), (2, .int y2), (3, .int y3), (4, .int y4)] → W p l e rm_X3_atom s m args below meth c H locs 0 0 (MQ below (gQ D sz ws0 (ws_X3_atom cI cJ cB a0 a_spans a_work a_kept a_p1 a_p1_cells z.1 works z.2 p1_rows p1_cells p1_cells_n) none) args s 0 0 (va_A ws0 sz)) (F0 m 99 ls []) := by
  obtain ⟨F, hr, hlk, hNw⟩ := id CX
  have hx := F.1
  have hb := F.2.1
  have hown := F.2.2.2.1
  have hA : ∀ q, s.heap.size ≤ q → va_A ws0 sz q := fun q hq => Or.inr (hsz ▸ hq)
  intro length kept y2 y3 y4 H locs ls h hP hD hS hl
  unfold f_X3_atom_99 at h
  refine lv_iinc (v := y4 + 1) (lv' := [(4, .int (y4 + 1)), (0, .ref a0), (1, .ref a_p1), (2, .int y2), (3, .int y3)]) hx hb dX3_atom_99 hl (k := 4) rfl rfl (by decide) rfl (fun ls hl => ?_)
  refine lv_goto (tgt := 8) hx hb dX3_atom_102 (by decide) ?_
  exact hK8 length kept y2 y3 (y4 + 1) _ _ _ h hP hD hS (lv_sub hl [1, 2, 3, 4, 0] rfl)
set_option maxHeartbeats 4000000 in
set_option maxRecDepth 100000 in
theorem w_X3_atom_83 (CX : Cx p m c cX3_atom 7 s args x0 RX3 meth none) (hK : va_K D vwCl (ty0 cI cJ cB) s) (hsz : s.heap.size = sz) {K8 : Int32 → (Nat → Int32) → Int32 → (Nat → Int32) → Nat → Int32 → Int32 → Int32 → Option ((Int32) × (Nat → Int32))} (hK8 : ∀ (length : Int32) (kept : Nat → Int32) (y2 : Int32) (y3 : Int32) (y4 : Int32) (H : Heap) (locs : List Loc) (ls : Array Slot), K8 length kept p1_rows p1_cells p1_cells_n y2 y3 y4 = some z → va_P D vwCl (ws_X3_atom cI cJ cB a0 a_spans a_work a_kept a_p1 a_p1_cells length works kept p1_rows p1_cells p1_cells_n) H → va_D (va_A ws0 sz) (ws_X3_atom cI cJ cB a0 a_spans a_work a_kept a_p1 a_p1_cells length works kept p1_rows p1_cells p1_cells_n) → va_S (va_A ws0 sz) s.heap H locs → lv_has ls 7 [(0, .ref a0), (1, .ref a_p1), (2, .int y2), (3, .int y3), (4, .int y4)] → W p l e rm_X3_atom s m args below meth c H locs 0 0 (MQ below (gQ D sz ws0 (ws_X3_atom cI cJ cB a0 a_spans a_work a_kept a_p1 a_p1_cells z.1 works z.2 p1_rows p1_cells p1_cells_n) none) args s 0 0 (va_A ws0 sz)) (F0 m 8 ls [])) : ∀ (length : Int32) (kept : Nat → Int32) (y2 : Int32) (y3 : Int32) (y4 : Int32) (H : Heap) (locs : List Loc) (ls : Array Slot), f_X3_atom_83 K8 N length kept p1_rows p1_cells p1_cells_n y2 y3 y4 = some z → va_P D vwCl (ws_X3_atom cI cJ cB a0 a_spans a_work a_kept a_p1 a_p1_cells length works kept p1_rows p1_cells p1_cells_n) H → va_D (va_A ws0 sz) (ws_X3_atom cI cJ cB a0 a_spans a_work a_kept a_p1 a_p1_cells length works kept p1_rows p1_cells p1_cells_n) → va_S (va_A ws0 sz) s.heap H locs → lv_has ls 7 [(0, .ref a0), (1, .ref a_p1), (2, .int y2), (3, .int y3), (4, .int y4)] → W p l e rm_X3_atom s m args below meth c H locs 0 0 (MQ below (gQ D sz ws0 (ws_X3_atom cI cJ cB a0 a_spans a_work a_kept a_p1 a_p1_cells z.1 works z.2 p1_rows p1_cells p1_cells_n) none) args s 0 0 (va_A ws0 sz)) (F0 m 83 ls []) := by
  obtain ⟨F, hr, hlk, hNw⟩ := id CX
  have hx := F.1
  have hb := F.2.1
  have hown := F.2.2.2.1
  have hA : ∀ q, s.heap.size ≤ q → va_A ws0 sz q := fun q hq => Or.inr (hsz ▸ hq)
  intro length kept y2 y3 y4 H locs ls h hP hD hS hl
  unfold f_X3_atom_83 at h
  refine lv_iload hx hb dX3_atom_83 (lv_at hl 4 rfl) ?_
  refine lv_bipush (v := 8) hx hb dX3_atom_85 (by decide) ?_
  refine lv_icmp_ge (tgt := 99) hx hb dX3_atom_87 (by decide) (fun c87 => ?_) (fun c87 => ?_)
  · have h := o_t c87 h
    exact w_X3_atom_99 CX hK hsz (hK8 := hK8) length kept y2 y3 y4 _ _ _ h hP hD hS (lv_sub hl [0, 1, 2, 3, 4] rfl)
  · have h := o_f c87 h
    refine lv_aload_n hx hb dX3_atom_90 rfl (lv_at hl 0 rfl) ?_
    refine lv_bipush (v := 97) hx hb dX3_atom_91 (by decide) ?_
    refine lv_iload hx hb dX3_atom_93 (lv_at hl 4 rfl) ?_
    refine lv_iadd hx hb dX3_atom_95 ?_
    obtain ⟨z96, hz96, h⟩ := o_b h
    refine k_v (wn := (ws_X3_atom cI cJ cB a0 a_spans a_work a_kept a_p1 a_p1_cells z96.1 works z96.2 p1_rows p1_cells p1_cells_n)) (As := [.int (97 + y4)]) (rest := []) F hNw hK hP hD hS hA (c_X3_letter l D cI cJ cB a0 a_spans a_work a_kept _ length works kept (97 + y4) N hz96) wm_940 cv_X3_letter [0, 1] [2, 3] [2, 3, 0, 1] (⟨rfl, rfl, rfl, by decide, rfl⟩ : Ix [0, 1] [2, 3] [2, 3, 0, 1] 4) rfl rfl rfl rfl rfl rfl ⟨rfl, rfl, by decide, by decide⟩ hl.1 rfl (Nat.le_of_ble_eq_true rfl) ⟨Nat.zero_le _, Nat.zero_le _⟩ dX3_atom_96 (fun H locs hP hD hS => ?_)
    exact w_X3_atom_99 CX hK hsz (hK8 := hK8) z96.1 z96.2 y2 y3 y4 _ _ _ h hP hD hS (lv_sub hl [0, 1, 2, 3, 4] rfl)
set_option maxHeartbeats 4000000 in
set_option maxRecDepth 100000 in
theorem w_X3_atom_77 (CX : Cx p m c cX3_atom 7 s args x0 RX3 meth none) (hK : va_K D vwCl (ty0 cI cJ cB) s) (hsz : s.heap.size = sz) {K8 : Int32 → (Nat → Int32) → Int32 → (Nat → Int32) → Nat → Int32 → Int32 → Int32 → Option ((Int32) × (Nat → Int32))} (hK8 : ∀ (length : Int32) (kept : Nat → Int32) (y2 : Int32) (y3 : Int32) (y4 : Int32) (H : Heap) (locs : List Loc) (ls : Array Slot), K8 length kept p1_rows p1_cells p1_cells_n y2 y3 y4 = some z → va_P D vwCl (ws_X3_atom cI cJ cB a0 a_spans a_work a_kept a_p1 a_p1_cells length works kept p1_rows p1_cells p1_cells_n) H → va_D (va_A ws0 sz) (ws_X3_atom cI cJ cB a0 a_spans a_work a_kept a_p1 a_p1_cells length works kept p1_rows p1_cells p1_cells_n) → va_S (va_A ws0 sz) s.heap H locs → lv_has ls 7 [(0, .ref a0), (1, .ref a_p1), (2, .int y2), (3, .int y3), (4, .int y4)] → W p l e rm_X3_atom s m args below meth c H locs 0 0 (MQ below (gQ D sz ws0 (ws_X3_atom cI cJ cB a0 a_spans a_work a_kept a_p1 a_p1_cells z.1 works z.2 p1_rows p1_cells p1_cells_n) none) args s 0 0 (va_A ws0 sz)) (F0 m 8 ls [])) : ∀ (length : Int32) (kept : Nat → Int32) (y2 : Int32) (y3 : Int32) (y4 : Int32) (y6 : Int32) (H : Heap) (locs : List Loc) (ls : Array Slot), f_X3_atom_77 K8 N length kept p1_rows p1_cells p1_cells_n y2 y3 y4 y6 = some z → va_P D vwCl (ws_X3_atom cI cJ cB a0 a_spans a_work a_kept a_p1 a_p1_cells length works kept p1_rows p1_cells p1_cells_n) H → va_D (va_A ws0 sz) (ws_X3_atom cI cJ cB a0 a_spans a_work a_kept a_p1 a_p1_cells length works kept p1_rows p1_cells p1_cells_n) → va_S (va_A ws0 sz) s.heap H locs → lv_has ls 7 [(0, .ref a0), (1, .ref a_p1), (2, .int y2), (3, .int y3), (4, .int y4), (6, .int y6)] → W p l e rm_X3_atom s m args below meth c H locs 0 0 (MQ below (gQ D sz ws0 (ws_X3_atom cI cJ cB a0 a_spans a_work a_kept a_p1 a_p1_cells z.1 works z.2 p1_rows p1_cells p1_cells_n) none) args s 0 0 (va_A ws0 sz)) (F0 m 77 ls []) := by
  obtain ⟨F, hr, hlk, hNw⟩ := id CX
  have hx := F.1
  have hb := F.2.1
  have hown := F.2.2.2.1
  have hA : ∀ q, s.heap.size ≤ q → va_A ws0 sz q := fun q hq => Or.inr (hsz ▸ hq)
  intro length kept y2 y3 y4 y6 H locs ls h hP hD hS hl
  unfold f_X3_atom_77 at h
  refine lv_aload_n hx hb dX3_atom_77 rfl (lv_at hl 0 rfl) ?_
  refine lv_iload hx hb dX3_atom_78 (lv_at hl 5 rfl) ?_
  obtain ⟨z80, hz80, h⟩ := o_b h
  refine k_v (wn := (ws_X3_atom cI cJ cB a0 a_spans a_work a_kept a_p1 a_p1_cells z80.1 works z80.2 p1_rows p1_cells p1_cells_n)) (As := [.int y6]) (rest := []) F hNw hK hP hD hS hA (c_X3_digits l D cI cJ cB a0 a_spans a_work a_kept _ length works kept y6 N hz80) wm_955 cv_X3_digits [0, 1] [2, 3] [2, 3, 0, 1] (⟨rfl, rfl, rfl, by decide, rfl⟩ : Ix [0, 1] [2, 3] [2, 3, 0, 1] 4) rfl rfl rfl rfl rfl rfl ⟨rfl, rfl, by decide, by decide⟩ hl.1 rfl (Nat.le_of_ble_eq_true rfl) ⟨Nat.zero_le _, Nat.zero_le _⟩ dX3_atom_80 (fun H locs hP hD hS => ?_)
  exact w_X3_atom_83 CX hK hsz (hK8 := hK8) z80.1 z80.2 y2 y3 y4 _ _ _ h hP hD hS (lv_sub hl [0, 1, 2, 3, 4] rfl)
set_option maxHeartbeats 4000000 in
set_option maxRecDepth 100000 in
theorem w_X3_atom_57 (CX : Cx p m c cX3_atom 7 s args x0 RX3 meth none) (hK : va_K D vwCl (ty0 cI cJ cB) s) (hsz : s.heap.size = sz) {K8 : Int32 → (Nat → Int32) → Int32 → (Nat → Int32) → Nat → Int32 → Int32 → Int32 → Option ((Int32) × (Nat → Int32))} (hK8 : ∀ (length : Int32) (kept : Nat → Int32) (y2 : Int32) (y3 : Int32) (y4 : Int32) (H : Heap) (locs : List Loc) (ls : Array Slot), K8 length kept p1_rows p1_cells p1_cells_n y2 y3 y4 = some z → va_P D vwCl (ws_X3_atom cI cJ cB a0 a_spans a_work a_kept a_p1 a_p1_cells length works kept p1_rows p1_cells p1_cells_n) H → va_D (va_A ws0 sz) (ws_X3_atom cI cJ cB a0 a_spans a_work a_kept a_p1 a_p1_cells length works kept p1_rows p1_cells p1_cells_n) → va_S (va_A ws0 sz) s.heap H locs → lv_has ls 7 [(0, .ref a0), (1, .ref a_p1), (2, .int y2), (3, .int y3), (4, .int y4)] → W p l e rm_X3_atom s m args below meth c H locs 0 0 (MQ below (gQ D sz ws0 (ws_X3_atom cI cJ cB a0 a_spans a_work a_kept a_p1 a_p1_cells z.1 works z.2 p1_rows p1_cells p1_cells_n) none) args s 0 0 (va_A ws0 sz)) (F0 m 8 ls [])) : ∀ (length : Int32) (kept : Nat → Int32) (y2 : Int32) (y3 : Int32) (y4 : Int32) (y5 : Int32) (H : Heap) (locs : List Loc) (ls : Array Slot), f_X3_atom_57 K8 N length kept p1_rows p1_cells p1_cells_n y2 y3 y4 y5 = some z → va_P D vwCl (ws_X3_atom cI cJ cB a0 a_spans a_work a_kept a_p1 a_p1_cells length works kept p1_rows p1_cells p1_cells_n) H → va_D (va_A ws0 sz) (ws_X3_atom cI cJ cB a0 a_spans a_work a_kept a_p1 a_p1_cells length works kept p1_rows p1_cells p1_cells_n) → va_S (va_A ws0 sz) s.heap H locs → lv_has ls 7 [(0, .ref a0), (1, .ref a_p1), (2, .int y2), (3, .int y3), (4, .int y4), (5, .int y5)] → W p l e rm_X3_atom s m args below meth c H locs 0 0 (MQ below (gQ D sz ws0 (ws_X3_atom cI cJ cB a0 a_spans a_work a_kept a_p1 a_p1_cells z.1 works z.2 p1_rows p1_cells p1_cells_n) none) args s 0 0 (va_A ws0 sz)) (F0 m 57 ls []) := by
  obtain ⟨F, hr, hlk, hNw⟩ := id CX
  have hx := F.1
  have hb := F.2.1
  have hown := F.2.2.2.1
  have hA : ∀ q, s.heap.size ≤ q → va_A ws0 sz q := fun q hq => Or.inr (hsz ▸ hq)
  intro length kept y2 y3 y4 y5 H locs ls h hP hD hS hl
  unfold f_X3_atom_57 at h
  refine lv_iload hx hb dX3_atom_57 (lv_at hl 5 rfl) ?_
  refine va_mabs hx hb (F.2.2.1.trans hl.1.symm) hown (F.2.2.2.2 _ (q_in wm_954)) (F.2.2.2.2 _ (q_in wm_876)) (F.2.2.2.2 _ (q_in wm_75)) (F.2.2.2.2 _ (q_in wm_877)) (Nat.le_of_ble_eq_true rfl) (Nat.le_of_ble_eq_true rfl) (Nat.zero_le _) (Nat.zero_le _) dX3_atom_59 ?_
  refine lv_istore (lv' := [(6, .int (jabs y5)), (0, .ref a0), (1, .ref a_p1), (2, .int y2), (3, .int y3), (4, .int y4), (5, .int y5)]) hx hb dX3_atom_62 hl (by decide) rfl (fun ls hl => ?_)
  refine lv_iload hx hb dX3_atom_64 (lv_at hl 0 rfl) ?_
  refine lv_iconst (v := 1) hx hb dX3_atom_66 (by decide) ?_
  refine lv_icmp_ne (tgt := 77) hx hb dX3_atom_67 (by decide) (fun c67 => ?_) (fun c67 => ?_)
  · have h := o_f c67 h
    exact w_X3_atom_77 CX hK hsz (hK8 := hK8) length kept y2 y3 y4 (jabs y5) _ _ _ h hP hD hS (lv_sub hl [1, 2, 3, 4, 5, 0] rfl)
  · have h := o_t c67 h
    refine lv_iload hx hb dX3_atom_70 (lv_at hl 5 rfl) ?_
    refine lv_bipush (v := 8) hx hb dX3_atom_72 (by decide) ?_
    refine lv_icmp_ne (tgt := 83) hx hb dX3_atom_74 (by decide) (fun c74 => ?_) (fun c74 => ?_)
    · have h := o_f c74 h
      exact w_X3_atom_83 CX hK hsz (hK8 := hK8) length kept y2 y3 y4 _ _ _ h hP hD hS (lv_sub hl [1, 2, 3, 4, 5] rfl)
    · have h := o_t c74 h
      exact w_X3_atom_77 CX hK hsz (hK8 := hK8) length kept y2 y3 y4 (jabs y5) _ _ _ h hP hD hS (lv_sub hl [1, 2, 3, 4, 5, 0] rfl)
set_option maxHeartbeats 4000000 in
set_option maxRecDepth 100000 in
theorem w_X3_atom_8 (CX : Cx p m c cX3_atom 7 s args x0 RX3 meth none) (hK : va_K D vwCl (ty0 cI cJ cB) s) (hsz : s.heap.size = sz) : ∀ (n : Nat), ∀ (length : Int32) (kept : Nat → Int32) (y2 : Int32) (y3 : Int32) (y4 : Int32) (H : Heap) (locs : List Loc) (ls : Array Slot), f_X3_atom_8 N n length kept p1_rows p1_cells p1_cells_n y2 y3 y4 = some z → va_P D vwCl (ws_X3_atom cI cJ cB a0 a_spans a_work a_kept a_p1 a_p1_cells length works kept p1_rows p1_cells p1_cells_n) H → va_D (va_A ws0 sz) (ws_X3_atom cI cJ cB a0 a_spans a_work a_kept a_p1 a_p1_cells length works kept p1_rows p1_cells p1_cells_n) → va_S (va_A ws0 sz) s.heap H locs → lv_has ls 7 [(0, .ref a0), (1, .ref a_p1), (2, .int y2), (3, .int y3), (4, .int y4)] → W p l e rm_X3_atom s m args below meth c H locs 0 0 (MQ below (gQ D sz ws0 (ws_X3_atom cI cJ cB a0 a_spans a_work a_kept a_p1 a_p1_cells z.1 works z.2 p1_rows p1_cells p1_cells_n) none) args s 0 0 (va_A ws0 sz)) (F0 m 8 ls []) := by
  obtain ⟨F, hr, hlk, hNw⟩ := id CX
  have hx := F.1
  have hb := F.2.1
  have hown := F.2.2.2.1
  have hA : ∀ q, s.heap.size ≤ q → va_A ws0 sz q := fun q hq => Or.inr (hsz ▸ hq)
  intro n
  induction n with
  | zero =>
    intro length kept y2 y3 y4 H locs ls h
    cases h
  | succ n ih =>
    intro length kept y2 y3 y4 H locs ls h hP hD hS hl
    unfold f_X3_atom_8 at h
    refine lv_iload hx hb dX3_atom_8 (lv_at hl 4 rfl) ?_
    refine lv_bipush (v := 9) hx hb dX3_atom_10 (by decide) ?_
    refine lv_icmp_ge (tgt := 105) hx hb dX3_atom_12 (by decide) (fun c12 => ?_) (fun c12 => ?_)
    · have h := o_t c12 h
      refine lv_aload_n hx hb dX3_atom_105 rfl (lv_at hl 0 rfl) ?_
      refine lv_aload_n hx hb dX3_atom_106 rfl (lv_at hl 1 rfl) ?_
      refine lv_iload_n hx hb dX3_atom_107 rfl (lv_at hl 2 rfl) ?_
      obtain ⟨z108, hz108, h⟩ := o_b h
      refine k_v (wn := (ws_X3_atom cI cJ cB a0 a_spans a_work a_kept a_p1 a_p1_cells length works kept p1_rows p1_cells p1_cells_n)) (As := [.int y2]) (rest := [.ref a0]) F hNw hK hP hD hS hA (c_X5_kind l D cI cJ cB a_p1 a_p1_cells _ p1_rows p1_cells p1_cells_n y2 N hz108) wm_948 cv_X5_kind [2, 3] [0, 1] [0, 1, 2, 3] (⟨rfl, rfl, rfl, by decide, rfl⟩ : Ix [2, 3] [0, 1] [0, 1, 2, 3] 4) rfl rfl rfl rfl rfl rfl ⟨rfl, rfl, by decide, by decide⟩ hl.1 rfl (Nat.le_of_ble_eq_true rfl) ⟨Nat.zero_le _, Nat.zero_le _⟩ dX3_atom_108 (fun H locs hP hD hS => ?_)
      obtain ⟨z111, hz111, h⟩ := o_b h
      refine k_v (wn := (ws_X3_atom cI cJ cB a0 a_spans a_work a_kept a_p1 a_p1_cells z111.1 works z111.2 p1_rows p1_cells p1_cells_n)) (As := [.int z108]) (rest := []) F hNw hK hP hD hS hA (c_X3_relation l D cI cJ cB a0 a_spans a_work a_kept _ length works kept z108 N hz111) wm_960 cv_X3_relation [0, 1] [2, 3] [2, 3, 0, 1] (⟨rfl, rfl, rfl, by decide, rfl⟩ : Ix [0, 1] [2, 3] [2, 3, 0, 1] 4) rfl rfl rfl rfl rfl rfl ⟨rfl, rfl, by decide, by decide⟩ hl.1 rfl (Nat.le_of_ble_eq_true rfl) ⟨Nat.zero_le _, Nat.zero_le _⟩ dX3_atom_111 (fun H locs hP hD hS => ?_)
      refine lv_aload_n hx hb dX3_atom_114 rfl (lv_at hl 0 rfl) ?_
      refine lv_bipush (v := 48) hx hb dX3_atom_115 (by decide) ?_
      obtain ⟨z117, hz117, h⟩ := o_b h
      refine k_v (wn := (ws_X3_atom cI cJ cB a0 a_spans a_work a_kept a_p1 a_p1_cells z117.1 works z117.2 p1_rows p1_cells p1_cells_n)) (As := [.int 48]) (rest := []) F hNw hK hP hD hS hA (c_X3_letter l D cI cJ cB a0 a_spans a_work a_kept _ z111.1 works z111.2 48 N hz117) wm_940 cv_X3_letter [0, 1] [2, 3] [2, 3, 0, 1] (⟨rfl, rfl, rfl, by decide, rfl⟩ : Ix [0, 1] [2, 3] [2, 3, 0, 1] 4) rfl rfl rfl rfl rfl rfl ⟨rfl, rfl, by decide, by decide⟩ hl.1 rfl (Nat.le_of_ble_eq_true rfl) ⟨Nat.zero_le _, Nat.zero_le _⟩ dX3_atom_117 (fun H locs hP hD hS => ?_)
      obtain rfl := Option.some.inj h
      exact r_vret F hr hlk dX3_atom_120 hsz hP hD hS
    · have h := o_f c12 h
      refine lv_aload_n hx hb dX3_atom_15 rfl (lv_at hl 1 rfl) ?_
      refine lv_iload_n hx hb dX3_atom_16 rfl (lv_at hl 2 rfl) ?_
      refine lv_iload hx hb dX3_atom_17 (lv_at hl 4 rfl) ?_
      obtain ⟨z19, hz19, h⟩ := o_b h
      refine k_v (wn := (ws_X3_atom cI cJ cB a0 a_spans a_work a_kept a_p1 a_p1_cells length works kept p1_rows p1_cells p1_cells_n)) (As := [.int y2, .int y4]) (rest := []) F hNw hK hP hD hS hA (c_X5_number l D cI cJ cB a_p1 a_p1_cells _ p1_rows p1_cells p1_cells_n y2 y4 N hz19) wm_953 cv_X5_number [2, 3] [0, 1] [0, 1, 2, 3] (⟨rfl, rfl, rfl, by decide, rfl⟩ : Ix [2, 3] [0, 1] [0, 1, 2, 3] 4) rfl rfl rfl rfl rfl rfl ⟨rfl, rfl, by decide, by decide⟩ hl.1 rfl (Nat.le_of_ble_eq_true rfl) ⟨Nat.zero_le _, Nat.zero_le _⟩ dX3_atom_19 (fun H locs hP hD hS => ?_)
      refine lv_istore (lv' := [(5, .int z19), (0, .ref a0), (1, .ref a_p1), (2, .int y2), (3, .int y3), (4, .int y4)]) hx hb dX3_atom_22 hl (by decide) rfl (fun ls hl => ?_)
      refine lv_iload hx hb dX3_atom_24 (lv_at hl 0 rfl) ?_
      refine lv_if_eq (tgt := 99) hx hb dX3_atom_26 (by decide) (fun c26 => ?_) (fun c26 => ?_)
      · have h := o_t c26 h
        exact w_X3_atom_99 CX hK hsz (hK8 := ih) length kept y2 y3 y4 _ _ _ h hP hD hS (lv_sub hl [1, 2, 3, 4, 5] rfl)
      · have h := o_f c26 h
        refine lv_iload hx hb dX3_atom_29 (lv_at hl 0 rfl) ?_
        refine lv_if_ge (tgt := 43) hx hb dX3_atom_31 (by decide) (fun c31 => ?_) (fun c31 => ?_)
        · have h := o_t c31 h
          refine lv_aload_n hx hb dX3_atom_43 rfl (lv_at hl 1 rfl) ?_
          refine r_get F hK hP 0 3 rfl inW_X3 wm_250 rfl (by decide) rfl dX3_atom_44 ?_
          refine lv_iload_n hx hb dX3_atom_47 rfl (lv_at hl 4 rfl) ?_
          refine lv_icmp_le (tgt := 57) hx hb dX3_atom_48 (by decide) (fun c48 => ?_) (fun c48 => ?_)
          · have h := o_t c48 h
            exact w_X3_atom_57 CX hK hsz (hK8 := ih) length kept y2 y3 y4 z19 _ _ _ h hP hD hS (lv_sub hl [1, 2, 3, 4, 5, 0] rfl)
          · have h := o_f c48 h
            refine lv_aload_n hx hb dX3_atom_51 rfl (lv_at hl 1 rfl) ?_
            refine lv_bipush (v := 43) hx hb dX3_atom_52 (by decide) ?_
            obtain ⟨z54, hz54, h⟩ := o_b h
            refine k_v (wn := (ws_X3_atom cI cJ cB a0 a_spans a_work a_kept a_p1 a_p1_cells z54.1 works z54.2 p1_rows p1_cells p1_cells_n)) (As := [.int 43]) (rest := []) F hNw hK hP hD hS hA (c_X3_letter l D cI cJ cB a0 a_spans a_work a_kept _ length works kept 43 N hz54) wm_940 cv_X3_letter [0, 1] [2, 3] [2, 3, 0, 1] (⟨rfl, rfl, rfl, by decide, rfl⟩ : Ix [0, 1] [2, 3] [2, 3, 0, 1] 4) rfl rfl rfl rfl rfl rfl ⟨rfl, rfl, by decide, by decide⟩ hl.1 rfl (Nat.le_of_ble_eq_true rfl) ⟨Nat.zero_le _, Nat.zero_le _⟩ dX3_atom_54 (fun H locs hP hD hS => ?_)
            exact w_X3_atom_57 CX hK hsz (hK8 := ih) z54.1 z54.2 y2 y3 y4 z19 _ _ _ h hP hD hS (lv_sub hl [1, 2, 3, 4, 5, 0] rfl)
        · have h := o_f c31 h
          refine lv_aload_n hx hb dX3_atom_34 rfl (lv_at hl 1 rfl) ?_
          refine lv_bipush (v := 45) hx hb dX3_atom_35 (by decide) ?_
          obtain ⟨z37, hz37, h⟩ := o_b h
          refine k_v (wn := (ws_X3_atom cI cJ cB a0 a_spans a_work a_kept a_p1 a_p1_cells z37.1 works z37.2 p1_rows p1_cells p1_cells_n)) (As := [.int 45]) (rest := []) F hNw hK hP hD hS hA (c_X3_letter l D cI cJ cB a0 a_spans a_work a_kept _ length works kept 45 N hz37) wm_940 cv_X3_letter [0, 1] [2, 3] [2, 3, 0, 1] (⟨rfl, rfl, rfl, by decide, rfl⟩ : Ix [0, 1] [2, 3] [2, 3, 0, 1] 4) rfl rfl rfl rfl rfl rfl ⟨rfl, rfl, by decide, by decide⟩ hl.1 rfl (Nat.le_of_ble_eq_true rfl) ⟨Nat.zero_le _, Nat.zero_le _⟩ dX3_atom_37 (fun H locs hP hD hS => ?_)
          refine lv_goto (tgt := 57) hx hb dX3_atom_40 (by decide) ?_
          exact w_X3_atom_57 CX hK hsz (hK8 := ih) z37.1 z37.2 y2 y3 y4 z19 _ _ _ h hP hD hS (lv_sub hl [1, 2, 3, 4, 5, 0] rfl)
end G_X3_atom
set_option maxHeartbeats 4000000 in
set_option maxRecDepth 100000 in
theorem c_X3_atom (l : Launch) (D : va_G) (cI cJ cB : ClassId) (a0 a_spans a_work a_kept a_p1 a_p1_cells : Nat) (sz : Nat) (length : Int32) (works : Int32) (kept : Nat → Int32) (p1_rows : Int32) (p1_cells : Nat → Int32) (p1_cells_n : Nat) (x2 : Int32) (N : Nat) {z : (Int32) × (Nat → Int32)} (h : f_X3_atom N length kept p1_rows p1_cells p1_cells_n x2 = some z) : Mg l yX3_atom cX3_atom 7 none rm_X3_atom D (ty0 cI cJ cB) [.ref a0, .ref a_p1, .int x2] sz (ws_X3_atom cI cJ cB a0 a_spans a_work a_kept a_p1 a_p1_cells length works kept p1_rows p1_cells p1_cells_n) none (ws_X3_atom cI cJ cB a0 a_spans a_work a_kept a_p1 a_p1_cells z.1 works z.2 p1_rows p1_cells p1_cells_n) := by
  refine Mg.of (by decide) (Nat.le_of_ble_eq_true rfl) ?_
  intro p e s m below meth c CX hK hsz hP hD ls hl
  have CX : Cx p m c cX3_atom 7 s ([.ref a0, .ref a_p1, .int x2] : List Value).toArray (Cond.code yX3_atom cX3_atom 7 none) RX3 meth none := CX
  obtain ⟨F, hr, hlk, hNw⟩ := id CX
  have hx := F.1
  have hb := F.2.1
  have hown := F.2.2.2.1
  have hl : lv_has ls 7 [(0, .ref a0), (1, .ref a_p1), (2, .int x2)] := hl
  have hS : va_S (va_A (ws_X3_atom cI cJ cB a0 a_spans a_work a_kept a_p1 a_p1_cells length works kept p1_rows p1_cells p1_cells_n) sz) s.heap s.heap [] := va_S.rf
  have hA : ∀ q, s.heap.size ≤ q → va_A (ws_X3_atom cI cJ cB a0 a_spans a_work a_kept a_p1 a_p1_cells length works kept p1_rows p1_cells p1_cells_n) sz q := fun q hq => Or.inr (hsz ▸ hq)
  unfold f_X3_atom at h
  refine lv_aload_n hx hb dX3_atom_0 rfl (lv_at hl 0 rfl) ?_
  refine r_get F hK hP 0 3 rfl inW_X3 wm_250 rfl (by decide) rfl dX3_atom_1 ?_
  refine lv_istore_n (lv' := [(3, .int length), (0, .ref a0), (1, .ref a_p1), (2, .int x2)]) hx hb dX3_atom_4 rfl hl (by decide) rfl (fun ls hl => ?_)
  refine lv_iconst (v := 0) hx hb dX3_atom_5 (by decide) ?_
  refine lv_istore (lv' := [(4, .int 0), (3, .int length), (0, .ref a0), (1, .ref a_p1), (2, .int x2)]) hx hb dX3_atom_6 hl (by decide) rfl (fun ls hl => ?_)
  exact w_X3_atom_8 CX hK hsz N length kept x2 length 0 _ _ _ h hP hD hS (lv_sub hl [2, 3, 4, 1, 0] rfl)
section G_X3_node
abbrev ws_X3_node (cI cJ cB : ClassId) (a0 a_kept a_spans a_work a_p1 a_p1_cells : Nat) (length : Int32) (works : Int32) (kept : Nat → Int32) (spans : Nat → Int32) (work : Nat → Int32) (p1_rows : Int32) (p1_cells : Nat → Int32) (p1_cells_n : Nat) : va_W := [(a0, .inr (5, [.ref a_kept, .ref a_spans, .ref a_work, .int length, .int works])), (a_kept, .inl (cB, 12000, .inl kept)), (a_spans, .inl (cI, 400, .inl spans)), (a_work, .inl (cI, 1600, .inl work)), (a_p1, .inr (7, [.ref a_p1_cells, .int p1_rows])), (a_p1_cells, .inl (cI, p1_cells_n, .inl p1_cells))]
abbrev rm_X3_node : Room := { frames := 3, cells := 0, slots := 0, locals := 71 }
def f_X3_node_161 (N : Nat) (length : Int32) (works : Int32) (kept : Nat → Int32) (spans : Nat → Int32) (work : Nat → Int32) (p1_rows : Int32) (p1_cells : Nat → Int32) (p1_cells_n : Nat) : Option ((Int32) × (Int32) × (Nat → Int32) × (Nat → Int32)) := some (length, works, kept, work)
def f_X3_node_27 (N : Nat) (length : Int32) (works : Int32) (kept : Nat → Int32) (spans : Nat → Int32) (work : Nat → Int32) (p1_rows : Int32) (p1_cells : Nat → Int32) (p1_cells_n : Nat) (s1 : Int32) : Option ((Int32) × (Int32) × (Nat → Int32) × (Nat → Int32)) := (f_X3_letter N length kept s1).bind (fun z27 => f_X3_node_161 N z27.1 works z27.2 spans work p1_rows p1_cells p1_cells_n)
def f_X3_node_15 (N : Nat) (length : Int32) (works : Int32) (kept : Nat → Int32) (spans : Nat → Int32) (work : Nat → Int32) (p1_rows : Int32) (p1_cells : Nat → Int32) (p1_cells_n : Nat) (y3 : Int32) : Option ((Int32) × (Int32) × (Nat → Int32) × (Nat → Int32)) := ifb (y3 = 0) (f_X3_node_27 N length works kept spans work p1_rows p1_cells p1_cells_n 84) (f_X3_node_27 N length works kept spans work p1_rows p1_cells p1_cells_n 70)
def f_X3_node_67 (N : Nat) (length : Int32) (works : Int32) (kept : Nat → Int32) (spans : Nat → Int32) (work : Nat → Int32) (p1_rows : Int32) (p1_cells : Nat → Int32) (p1_cells_n : Nat) (y2 : Int32) (s1 : Int32) : Option ((Int32) × (Int32) × (Nat → Int32) × (Nat → Int32)) := (f_X3_letter N length kept s1).bind (fun z67 => (f_X5_number N p1_rows p1_cells p1_cells_n y2 0).bind (fun z76 => (f_X3_letter N z67.1 z67.2 (97 + z76)).bind (fun z80 => (f_X3_letter N z80.1 z80.2 46).bind (fun z86 => (f_X3_later N works work (y2 - 1)).bind (fun z93 => f_X3_node_161 N z86.1 z93.1 z86.2 spans z93.2 p1_rows p1_cells p1_cells_n)))))
def f_X3_node_144 (N : Nat) (length : Int32) (works : Int32) (kept : Nat → Int32) (spans : Nat → Int32) (work : Nat → Int32) (p1_rows : Int32) (p1_cells : Nat → Int32) (p1_cells_n : Nat) (y2 : Int32) (s1 : Int32) : Option ((Int32) × (Int32) × (Nat → Int32) × (Nat → Int32)) := (f_X3_later N works work s1).bind (fun z144 => ix (y2 - 1) 400 ((f_X3_later N z144.1 z144.2 ((spans (y2 - 1).toNatClampNeg) - 1)).bind (fun z158 => f_X3_node_161 N length z158.1 kept spans z158.2 p1_rows p1_cells p1_cells_n)))
def f_X3_node (N : Nat) (length : Int32) (works : Int32) (kept : Nat → Int32) (spans : Nat → Int32) (work : Nat → Int32) (p1_rows : Int32) (p1_cells : Nat → Int32) (p1_cells_n : Nat) (x2 : Int32) : Option ((Int32) × (Int32) × (Nat → Int32) × (Nat → Int32)) := (f_X5_kind N p1_rows p1_cells p1_cells_n x2).bind (fun z2 => ifb (z2 = 0) (f_X3_node_15 N length works kept spans work p1_rows p1_cells p1_cells_n z2) (ifb (z2 = 1) (f_X3_node_15 N length works kept spans work p1_rows p1_cells p1_cells_n z2) (ifb (5 < z2) (ifb (z2 < 8) (ifb (x2 < 1) (f_X3_node_161 N length works kept spans work p1_rows p1_cells p1_cells_n) (ifb (400 < x2) (f_X3_node_161 N length works kept spans work p1_rows p1_cells p1_cells_n) ((f_X3_letter N length kept 40).bind (fun z114 => (f_X3_later N works work (-41)).bind (fun z120 => (f_X3_later N z120.1 z120.2 (x2 - 1)).bind (fun z127 => ifb (z2 = 6) (f_X3_node_144 N z114.1 z127.1 z114.2 spans z127.2 p1_rows p1_cells p1_cells_n x2 (-38)) (f_X3_node_144 N z114.1 z127.1 z114.2 spans z127.2 p1_rows p1_cells p1_cells_n x2 (-124)))))))) (ifb (z2 = 8) (f_X3_node_67 N length works kept spans work p1_rows p1_cells p1_cells_n x2 69) (f_X3_node_67 N length works kept spans work p1_rows p1_cells p1_cells_n x2 65))) ((f_X3_atom N length kept p1_rows p1_cells p1_cells_n x2).bind (fun z41 => f_X3_node_161 N z41.1 works z41.2 spans work p1_rows p1_cells p1_cells_n)))))
variable {p : Program} {l : Launch} {e : Env} {s : State} {m : MethodId} {below : List Frame} {meth : Method} {c : Code} {args : Array Value} {x0 : Cond} {D : va_G} {cI cJ cB : ClassId} {sz N : Nat} {ws0 : va_W} {a0 a_kept a_spans a_work a_p1 a_p1_cells : Nat} {spans : Nat → Int32} {p1_rows : Int32} {p1_cells : Nat → Int32} {p1_cells_n : Nat} {z : (Int32) × (Int32) × (Nat → Int32) × (Nat → Int32)}
set_option maxHeartbeats 4000000 in
set_option maxRecDepth 100000 in
theorem w_X3_node_161 (CX : Cx p m c cX3_node 4 s args x0 RX3 meth none) (hK : va_K D vwCl (ty0 cI cJ cB) s) (hsz : s.heap.size = sz) : ∀ (length : Int32) (works : Int32) (kept : Nat → Int32) (work : Nat → Int32) (H : Heap) (locs : List Loc) (ls : Array Slot), f_X3_node_161 N length works kept spans work p1_rows p1_cells p1_cells_n = some z → va_P D vwCl (ws_X3_node cI cJ cB a0 a_kept a_spans a_work a_p1 a_p1_cells length works kept spans work p1_rows p1_cells p1_cells_n) H → va_D (va_A ws0 sz) (ws_X3_node cI cJ cB a0 a_kept a_spans a_work a_p1 a_p1_cells length works kept spans work p1_rows p1_cells p1_cells_n) → va_S (va_A ws0 sz) s.heap H locs → lv_has ls 4 [] → W p l e rm_X3_node s m args below meth c H locs 0 0 (MQ below (gQ D sz ws0 (ws_X3_node cI cJ cB a0 a_kept a_spans a_work a_p1 a_p1_cells z.1 z.2.1 z.2.2.1 spans z.2.2.2 p1_rows p1_cells p1_cells_n) none) args s 0 0 (va_A ws0 sz)) (F0 m 161 ls []) := by
  obtain ⟨F, hr, hlk, hNw⟩ := id CX
  have hx := F.1
  have hb := F.2.1
  have hown := F.2.2.2.1
  have hA : ∀ q, s.heap.size ≤ q → va_A ws0 sz q := fun q hq => Or.inr (hsz ▸ hq)
  intro length works kept work H locs ls h hP hD hS hl
  unfold f_X3_node_161 at h
  obtain rfl := Option.some.inj h
  exact r_vret F hr hlk dX3_node_161 hsz hP hD hS
set_option maxHeartbeats 4000000 in
set_option maxRecDepth 100000 in
theorem w_X3_node_27 (CX : Cx p m c cX3_node 4 s args x0 RX3 meth none) (hK : va_K D vwCl (ty0 cI cJ cB) s) (hsz : s.heap.size = sz) : ∀ (length : Int32) (works : Int32) (kept : Nat → Int32) (work : Nat → Int32) (s1 : Int32) (H : Heap) (locs : List Loc) (ls : Array Slot), f_X3_node_27 N length works kept spans work p1_rows p1_cells p1_cells_n s1 = some z → va_P D vwCl (ws_X3_node cI cJ cB a0 a_kept a_spans a_work a_p1 a_p1_cells length works kept spans work p1_rows p1_cells p1_cells_n) H → va_D (va_A ws0 sz) (ws_X3_node cI cJ cB a0 a_kept a_spans a_work a_p1 a_p1_cells length works kept spans work p1_rows p1_cells p1_cells_n) → va_S (va_A ws0 sz) s.heap H locs → lv_has ls 4 [] → W p l e rm_X3_node s m args below meth c H locs 0 0 (MQ below (gQ D sz ws0 (ws_X3_node cI cJ cB a0 a_kept a_spans a_work a_p1 a_p1_cells z.1 z.2.1 z.2.2.1 spans z.2.2.2 p1_rows p1_cells p1_cells_n) none) args s 0 0 (va_A ws0 sz)) (F0 m 27 ls [.int s1, .ref a0]) := by
  obtain ⟨F, hr, hlk, hNw⟩ := id CX
  have hx := F.1
  have hb := F.2.1
  have hown := F.2.2.2.1
  have hA : ∀ q, s.heap.size ≤ q → va_A ws0 sz q := fun q hq => Or.inr (hsz ▸ hq)
  intro length works kept work s1 H locs ls h hP hD hS hl
  unfold f_X3_node_27 at h
  obtain ⟨z27, hz27, h⟩ := o_b h
  refine k_v (wn := (ws_X3_node cI cJ cB a0 a_kept a_spans a_work a_p1 a_p1_cells z27.1 works z27.2 spans work p1_rows p1_cells p1_cells_n)) (As := [.int s1]) (rest := []) F hNw hK hP hD hS hA (c_X3_letter l D cI cJ cB a0 a_spans a_work a_kept _ length works kept s1 N hz27) wm_940 cv_X3_letter [0, 1] [2, 3, 4, 5] [4, 5, 0, 1, 2, 3] (⟨rfl, rfl, rfl, by decide, rfl⟩ : Ix [0, 1] [2, 3, 4, 5] [4, 5, 0, 1, 2, 3] 6) rfl rfl rfl rfl rfl rfl ⟨rfl, rfl, by decide, by decide⟩ hl.1 rfl (Nat.le_of_ble_eq_true rfl) ⟨Nat.zero_le _, Nat.zero_le _⟩ dX3_node_27 (fun H locs hP hD hS => ?_)
  refine lv_goto (tgt := 161) hx hb dX3_node_30 (by decide) ?_
  exact w_X3_node_161 CX hK hsz z27.1 works z27.2 work _ _ _ h hP hD hS (lv_sub hl [] rfl)
set_option maxHeartbeats 4000000 in
set_option maxRecDepth 100000 in
theorem w_X3_node_15 (CX : Cx p m c cX3_node 4 s args x0 RX3 meth none) (hK : va_K D vwCl (ty0 cI cJ cB) s) (hsz : s.heap.size = sz) : ∀ (length : Int32) (works : Int32) (kept : Nat → Int32) (work : Nat → Int32) (y3 : Int32) (H : Heap) (locs : List Loc) (ls : Array Slot), f_X3_node_15 N length works kept spans work p1_rows p1_cells p1_cells_n y3 = some z → va_P D vwCl (ws_X3_node cI cJ cB a0 a_kept a_spans a_work a_p1 a_p1_cells length works kept spans work p1_rows p1_cells p1_cells_n) H → va_D (va_A ws0 sz) (ws_X3_node cI cJ cB a0 a_kept a_spans a_work a_p1 a_p1_cells length works kept spans work p1_rows p1_cells p1_cells_n) → va_S (va_A ws0 sz) s.heap H locs → lv_has ls 4 [(0, .ref a0), (3, .int y3)] → W p l e rm_X3_node s m args below meth c H locs 0 0 (MQ below (gQ D sz ws0 (ws_X3_node cI cJ cB a0 a_kept a_spans a_work a_p1 a_p1_cells z.1 z.2.1 z.2.2.1 spans z.2.2.2 p1_rows p1_cells p1_cells_n) none) args s 0 0 (va_A ws0 sz)) (F0 m 15 ls []) := by
  obtain ⟨F, hr, hlk, hNw⟩ := id CX
  have hx := F.1
  have hb := F.2.1
  have hown := F.2.2.2.1
  have hA : ∀ q, s.heap.size ≤ q → va_A ws0 sz q := fun q hq => Or.inr (hsz ▸ hq)
  intro length works kept work y3 H locs ls h hP hD hS hl
  unfold f_X3_node_15 at h
  refine lv_aload_n hx hb dX3_node_15 rfl (lv_at hl 0 rfl) ?_
  refine lv_iload_n hx hb dX3_node_16 rfl (lv_at hl 1 rfl) ?_
  refine lv_if_ne (tgt := 25) hx hb dX3_node_17 (by decide) (fun c17 => ?_) (fun c17 => ?_)
  · have h := o_f c17 h
    refine lv_bipush (v := 70) hx hb dX3_node_25 (by decide) ?_
    exact w_X3_node_27 CX hK hsz length works kept work 70 _ _ _ h hP hD hS (lv_sub hl [] rfl)
  · have h := o_t c17 h
    refine lv_bipush (v := 84) hx hb dX3_node_20 (by decide) ?_
    refine lv_goto (tgt := 27) hx hb dX3_node_22 (by decide) ?_
    exact w_X3_node_27 CX hK hsz length works kept work 84 _ _ _ h hP hD hS (lv_sub hl [] rfl)
set_option maxHeartbeats 4000000 in
set_option maxRecDepth 100000 in
theorem w_X3_node_67 (CX : Cx p m c cX3_node 4 s args x0 RX3 meth none) (hK : va_K D vwCl (ty0 cI cJ cB) s) (hsz : s.heap.size = sz) : ∀ (length : Int32) (works : Int32) (kept : Nat → Int32) (work : Nat → Int32) (y2 : Int32) (s1 : Int32) (H : Heap) (locs : List Loc) (ls : Array Slot), f_X3_node_67 N length works kept spans work p1_rows p1_cells p1_cells_n y2 s1 = some z → va_P D vwCl (ws_X3_node cI cJ cB a0 a_kept a_spans a_work a_p1 a_p1_cells length works kept spans work p1_rows p1_cells p1_cells_n) H → va_D (va_A ws0 sz) (ws_X3_node cI cJ cB a0 a_kept a_spans a_work a_p1 a_p1_cells length works kept spans work p1_rows p1_cells p1_cells_n) → va_S (va_A ws0 sz) s.heap H locs → lv_has ls 4 [(0, .ref a0), (1, .ref a_p1), (2, .int y2)] → W p l e rm_X3_node s m args below meth c H locs 0 0 (MQ below (gQ D sz ws0 (ws_X3_node cI cJ cB a0 a_kept a_spans a_work a_p1 a_p1_cells z.1 z.2.1 z.2.2.1 spans z.2.2.2 p1_rows p1_cells p1_cells_n) none) args s 0 0 (va_A ws0 sz)) (F0 m 67 ls [.int s1, .ref a0]) := by
  obtain ⟨F, hr, hlk, hNw⟩ := id CX
  have hx := F.1
  have hb := F.2.1
  have hown := F.2.2.2.1
  have hA : ∀ q, s.heap.size ≤ q → va_A ws0 sz q := fun q hq => Or.inr (hsz ▸ hq)
  intro length works kept work y2 s1 H locs ls h hP hD hS hl
  unfold f_X3_node_67 at h
  obtain ⟨z67, hz67, h⟩ := o_b h
  refine k_v (wn := (ws_X3_node cI cJ cB a0 a_kept a_spans a_work a_p1 a_p1_cells z67.1 works z67.2 spans work p1_rows p1_cells p1_cells_n)) (As := [.int s1]) (rest := []) F hNw hK hP hD hS hA (c_X3_letter l D cI cJ cB a0 a_spans a_work a_kept _ length works kept s1 N hz67) wm_940 cv_X3_letter [0, 1] [2, 3, 4, 5] [4, 5, 0, 1, 2, 3] (⟨rfl, rfl, rfl, by decide, rfl⟩ : Ix [0, 1] [2, 3, 4, 5] [4, 5, 0, 1, 2, 3] 6) rfl rfl rfl rfl rfl rfl ⟨rfl, rfl, by decide, by decide⟩ hl.1 rfl (Nat.le_of_ble_eq_true rfl) ⟨Nat.zero_le _, Nat.zero_le _⟩ dX3_node_67 (fun H locs hP hD hS => ?_)
  refine lv_aload_n hx hb dX3_node_70 rfl (lv_at hl 0 rfl) ?_
  refine lv_bipush (v := 97) hx hb dX3_node_71 (by decide) ?_
  refine lv_aload_n hx hb dX3_node_73 rfl (lv_at hl 1 rfl) ?_
  refine lv_iload_n hx hb dX3_node_74 rfl (lv_at hl 2 rfl) ?_
  refine lv_iconst (v := 0) hx hb dX3_node_75 (by decide) ?_
  obtain ⟨z76, hz76, h⟩ := o_b h
  refine k_v (wn := (ws_X3_node cI cJ cB a0 a_kept a_spans a_work a_p1 a_p1_cells z67.1 works z67.2 spans work p1_rows p1_cells p1_cells_n)) (As := [.int y2, .int 0]) (rest := [.int 97, .ref a0]) F hNw hK hP hD hS hA (c_X5_number l D cI cJ cB a_p1 a_p1_cells _ p1_rows p1_cells p1_cells_n y2 0 N hz76) wm_953 cv_X5_number [4, 5] [0, 1, 2, 3] [0, 1, 2, 3, 4, 5] (⟨rfl, rfl, rfl, by decide, rfl⟩ : Ix [4, 5] [0, 1, 2, 3] [0, 1, 2, 3, 4, 5] 6) rfl rfl rfl rfl rfl rfl ⟨rfl, rfl, by decide, by decide⟩ hl.1 rfl (Nat.le_of_ble_eq_true rfl) ⟨Nat.zero_le _, Nat.zero_le _⟩ dX3_node_76 (fun H locs hP hD hS => ?_)
  refine lv_iadd hx hb dX3_node_79 ?_
  obtain ⟨z80, hz80, h⟩ := o_b h
  refine k_v (wn := (ws_X3_node cI cJ cB a0 a_kept a_spans a_work a_p1 a_p1_cells z80.1 works z80.2 spans work p1_rows p1_cells p1_cells_n)) (As := [.int (97 + z76)]) (rest := []) F hNw hK hP hD hS hA (c_X3_letter l D cI cJ cB a0 a_spans a_work a_kept _ z67.1 works z67.2 (97 + z76) N hz80) wm_940 cv_X3_letter [0, 1] [2, 3, 4, 5] [4, 5, 0, 1, 2, 3] (⟨rfl, rfl, rfl, by decide, rfl⟩ : Ix [0, 1] [2, 3, 4, 5] [4, 5, 0, 1, 2, 3] 6) rfl rfl rfl rfl rfl rfl ⟨rfl, rfl, by decide, by decide⟩ hl.1 rfl (Nat.le_of_ble_eq_true rfl) ⟨Nat.zero_le _, Nat.zero_le _⟩ dX3_node_80 (fun H locs hP hD hS => ?_)
  refine lv_aload_n hx hb dX3_node_83 rfl (lv_at hl 0 rfl) ?_
  refine lv_bipush (v := 46) hx hb dX3_node_84 (by decide) ?_
  obtain ⟨z86, hz86, h⟩ := o_b h
  refine k_v (wn := (ws_X3_node cI cJ cB a0 a_kept a_spans a_work a_p1 a_p1_cells z86.1 works z86.2 spans work p1_rows p1_cells p1_cells_n)) (As := [.int 46]) (rest := []) F hNw hK hP hD hS hA (c_X3_letter l D cI cJ cB a0 a_spans a_work a_kept _ z80.1 works z80.2 46 N hz86) wm_940 cv_X3_letter [0, 1] [2, 3, 4, 5] [4, 5, 0, 1, 2, 3] (⟨rfl, rfl, rfl, by decide, rfl⟩ : Ix [0, 1] [2, 3, 4, 5] [4, 5, 0, 1, 2, 3] 6) rfl rfl rfl rfl rfl rfl ⟨rfl, rfl, by decide, by decide⟩ hl.1 rfl (Nat.le_of_ble_eq_true rfl) ⟨Nat.zero_le _, Nat.zero_le _⟩ dX3_node_86 (fun H locs hP hD hS => ?_)
  refine lv_aload_n hx hb dX3_node_89 rfl (lv_at hl 0 rfl) ?_
  refine lv_iload_n hx hb dX3_node_90 rfl (lv_at hl 2 rfl) ?_
  refine lv_iconst (v := 1) hx hb dX3_node_91 (by decide) ?_
  refine lv_isub hx hb dX3_node_92 ?_
  obtain ⟨z93, hz93, h⟩ := o_b h
  refine k_v (wn := (ws_X3_node cI cJ cB a0 a_kept a_spans a_work a_p1 a_p1_cells z86.1 z93.1 z86.2 spans z93.2 p1_rows p1_cells p1_cells_n)) (As := [.int (y2 - 1)]) (rest := []) F hNw hK hP hD hS hA (c_X3_later l D cI cJ cB a0 a_kept a_spans a_work _ z86.1 works work (y2 - 1) N hz93) wm_936 cv_X3_later [0, 3] [1, 2, 4, 5] [4, 0, 1, 5, 2, 3] (⟨rfl, rfl, rfl, by decide, rfl⟩ : Ix [0, 3] [1, 2, 4, 5] [4, 0, 1, 5, 2, 3] 6) rfl rfl rfl rfl rfl rfl ⟨rfl, rfl, by decide, by decide⟩ hl.1 rfl (Nat.le_of_ble_eq_true rfl) ⟨Nat.zero_le _, Nat.zero_le _⟩ dX3_node_93 (fun H locs hP hD hS => ?_)
  refine lv_goto (tgt := 161) hx hb dX3_node_96 (by decide) ?_
  exact w_X3_node_161 CX hK hsz z86.1 z93.1 z86.2 z93.2 _ _ _ h hP hD hS (lv_sub hl [] rfl)
set_option maxHeartbeats 4000000 in
set_option maxRecDepth 100000 in
theorem w_X3_node_144 (CX : Cx p m c cX3_node 4 s args x0 RX3 meth none) (hK : va_K D vwCl (ty0 cI cJ cB) s) (hsz : s.heap.size = sz) : ∀ (length : Int32) (works : Int32) (kept : Nat → Int32) (work : Nat → Int32) (y2 : Int32) (s1 : Int32) (H : Heap) (locs : List Loc) (ls : Array Slot), f_X3_node_144 N length works kept spans work p1_rows p1_cells p1_cells_n y2 s1 = some z → va_P D vwCl (ws_X3_node cI cJ cB a0 a_kept a_spans a_work a_p1 a_p1_cells length works kept spans work p1_rows p1_cells p1_cells_n) H → va_D (va_A ws0 sz) (ws_X3_node cI cJ cB a0 a_kept a_spans a_work a_p1 a_p1_cells length works kept spans work p1_rows p1_cells p1_cells_n) → va_S (va_A ws0 sz) s.heap H locs → lv_has ls 4 [(0, .ref a0), (2, .int y2)] → W p l e rm_X3_node s m args below meth c H locs 0 0 (MQ below (gQ D sz ws0 (ws_X3_node cI cJ cB a0 a_kept a_spans a_work a_p1 a_p1_cells z.1 z.2.1 z.2.2.1 spans z.2.2.2 p1_rows p1_cells p1_cells_n) none) args s 0 0 (va_A ws0 sz)) (F0 m 144 ls [.int s1, .ref a0]) := by
  obtain ⟨F, hr, hlk, hNw⟩ := id CX
  have hx := F.1
  have hb := F.2.1
  have hown := F.2.2.2.1
  have hA : ∀ q, s.heap.size ≤ q → va_A ws0 sz q := fun q hq => Or.inr (hsz ▸ hq)
  intro length works kept work y2 s1 H locs ls h hP hD hS hl
  unfold f_X3_node_144 at h
  obtain ⟨z144, hz144, h⟩ := o_b h
  refine k_v (wn := (ws_X3_node cI cJ cB a0 a_kept a_spans a_work a_p1 a_p1_cells length z144.1 kept spans z144.2 p1_rows p1_cells p1_cells_n)) (As := [.int s1]) (rest := []) F hNw hK hP hD hS hA (c_X3_later l D cI cJ cB a0 a_kept a_spans a_work _ length works work s1 N hz144) wm_936 cv_X3_later [0, 3] [1, 2, 4, 5] [4, 0, 1, 5, 2, 3] (⟨rfl, rfl, rfl, by decide, rfl⟩ : Ix [0, 3] [1, 2, 4, 5] [4, 0, 1, 5, 2, 3] 6) rfl rfl rfl rfl rfl rfl ⟨rfl, rfl, by decide, by decide⟩ hl.1 rfl (Nat.le_of_ble_eq_true rfl) ⟨Nat.zero_le _, Nat.zero_le _⟩ dX3_node_144 (fun H locs hP hD hS => ?_)
  refine lv_aload_n hx hb dX3_node_147 rfl (lv_at hl 0 rfl) ?_
  refine lv_aload_n hx hb dX3_node_148 rfl (lv_at hl 0 rfl) ?_
  refine r_get F hK hP 0 1 rfl inW_X3 wm_248 rfl (by decide) rfl dX3_node_149 ?_
  refine lv_iload_n hx hb dX3_node_152 rfl (lv_at hl 1 rfl) ?_
  refine lv_iconst (v := 1) hx hb dX3_node_153 (by decide) ?_
  refine lv_isub hx hb dX3_node_154 ?_
  obtain ⟨hi155, h⟩ := o_ix h
  refine va_iald hx hb hK hP 2 0 rfl rfl hi155 dX3_node_155 ?_
  refine lv_iconst (v := 1) hx hb dX3_node_156 (by decide) ?_
  refine lv_isub hx hb dX3_node_157 ?_
  obtain ⟨z158, hz158, h⟩ := o_b h
  refine k_v (wn := (ws_X3_node cI cJ cB a0 a_kept a_spans a_work a_p1 a_p1_cells length z158.1 kept spans z158.2 p1_rows p1_cells p1_cells_n)) (As := [.int ((spans (y2 - 1).toNatClampNeg) - 1)]) (rest := []) F hNw hK hP hD hS hA (c_X3_later l D cI cJ cB a0 a_kept a_spans a_work _ length z144.1 z144.2 ((spans (y2 - 1).toNatClampNeg) - 1) N hz158) wm_936 cv_X3_later [0, 3] [1, 2, 4, 5] [4, 0, 1, 5, 2, 3] (⟨rfl, rfl, rfl, by decide, rfl⟩ : Ix [0, 3] [1, 2, 4, 5] [4, 0, 1, 5, 2, 3] 6) rfl rfl rfl rfl rfl rfl ⟨rfl, rfl, by decide, by decide⟩ hl.1 rfl (Nat.le_of_ble_eq_true rfl) ⟨Nat.zero_le _, Nat.zero_le _⟩ dX3_node_158 (fun H locs hP hD hS => ?_)
  exact w_X3_node_161 CX hK hsz length z158.1 kept z158.2 _ _ _ h hP hD hS (lv_sub hl [] rfl)
end G_X3_node
set_option maxHeartbeats 4000000 in
set_option maxRecDepth 100000 in
theorem c_X3_node (l : Launch) (D : va_G) (cI cJ cB : ClassId) (a0 a_kept a_spans a_work a_p1 a_p1_cells : Nat) (sz : Nat) (length : Int32) (works : Int32) (kept : Nat → Int32) (spans : Nat → Int32) (work : Nat → Int32) (p1_rows : Int32) (p1_cells : Nat → Int32) (p1_cells_n : Nat) (x2 : Int32) (N : Nat) {z : (Int32) × (Int32) × (Nat → Int32) × (Nat → Int32)} (h : f_X3_node N length works kept spans work p1_rows p1_cells p1_cells_n x2 = some z) : Mg l yX3_node cX3_node 4 none rm_X3_node D (ty0 cI cJ cB) [.ref a0, .ref a_p1, .int x2] sz (ws_X3_node cI cJ cB a0 a_kept a_spans a_work a_p1 a_p1_cells length works kept spans work p1_rows p1_cells p1_cells_n) none (ws_X3_node cI cJ cB a0 a_kept a_spans a_work a_p1 a_p1_cells z.1 z.2.1 z.2.2.1 spans z.2.2.2 p1_rows p1_cells p1_cells_n) := by
  refine Mg.of (by decide) (Nat.le_of_ble_eq_true rfl) ?_
  intro p e s m below meth c CX hK hsz hP hD ls hl
  have CX : Cx p m c cX3_node 4 s ([.ref a0, .ref a_p1, .int x2] : List Value).toArray (Cond.code yX3_node cX3_node 4 none) RX3 meth none := CX
  obtain ⟨F, hr, hlk, hNw⟩ := id CX
  have hx := F.1
  have hb := F.2.1
  have hown := F.2.2.2.1
  have hl : lv_has ls 4 [(0, .ref a0), (1, .ref a_p1), (2, .int x2)] := hl
  have hS : va_S (va_A (ws_X3_node cI cJ cB a0 a_kept a_spans a_work a_p1 a_p1_cells length works kept spans work p1_rows p1_cells p1_cells_n) sz) s.heap s.heap [] := va_S.rf
  have hA : ∀ q, s.heap.size ≤ q → va_A (ws_X3_node cI cJ cB a0 a_kept a_spans a_work a_p1 a_p1_cells length works kept spans work p1_rows p1_cells p1_cells_n) sz q := fun q hq => Or.inr (hsz ▸ hq)
  unfold f_X3_node at h
  refine lv_aload_n hx hb dX3_node_0 rfl (lv_at hl 1 rfl) ?_
  refine lv_iload_n hx hb dX3_node_1 rfl (lv_at hl 2 rfl) ?_
  obtain ⟨z2, hz2, h⟩ := o_b h
  refine k_v (wn := (ws_X3_node cI cJ cB a0 a_kept a_spans a_work a_p1 a_p1_cells length works kept spans work p1_rows p1_cells p1_cells_n)) (As := [.int x2]) (rest := []) F hNw hK hP hD hS hA (c_X5_kind l D cI cJ cB a_p1 a_p1_cells _ p1_rows p1_cells p1_cells_n x2 N hz2) wm_948 cv_X5_kind [4, 5] [0, 1, 2, 3] [0, 1, 2, 3, 4, 5] (⟨rfl, rfl, rfl, by decide, rfl⟩ : Ix [4, 5] [0, 1, 2, 3] [0, 1, 2, 3, 4, 5] 6) rfl rfl rfl rfl rfl rfl ⟨rfl, rfl, by decide, by decide⟩ hl.1 rfl (Nat.le_of_ble_eq_true rfl) ⟨Nat.zero_le _, Nat.zero_le _⟩ dX3_node_2 (fun H locs hP hD hS => ?_)
  refine lv_istore_n (lv' := [(3, .int z2), (0, .ref a0), (1, .ref a_p1), (2, .int x2)]) hx hb dX3_node_5 rfl hl (by decide) rfl (fun ls hl => ?_)
  refine lv_iload_n hx hb dX3_node_6 rfl (lv_at hl 0 rfl) ?_
  refine lv_if_eq (tgt := 15) hx hb dX3_node_7 (by decide) (fun c7 => ?_) (fun c7 => ?_)
  · have h := o_t c7 h
    exact w_X3_node_15 CX hK hsz length works kept work z2 _ _ _ h hP hD hS (lv_sub hl [1, 0] rfl)
  · have h := o_f c7 h
    refine lv_iload_n hx hb dX3_node_10 rfl (lv_at hl 0 rfl) ?_
    refine lv_iconst (v := 1) hx hb dX3_node_11 (by decide) ?_
    refine lv_icmp_ne (tgt := 33) hx hb dX3_node_12 (by decide) (fun c12 => ?_) (fun c12 => ?_)
    · have h := o_f c12 h
      refine lv_iload_n hx hb dX3_node_33 rfl (lv_at hl 0 rfl) ?_
      refine lv_iconst (v := 5) hx hb dX3_node_34 (by decide) ?_
      refine lv_icmp_gt (tgt := 47) hx hb dX3_node_35 (by decide) (fun c35 => ?_) (fun c35 => ?_)
      · have h := o_t c35 h
        refine lv_iload_n hx hb dX3_node_47 rfl (lv_at hl 0 rfl) ?_
        refine lv_bipush (v := 8) hx hb dX3_node_48 (by decide) ?_
        refine lv_icmp_lt (tgt := 99) hx hb dX3_node_50 (by decide) (fun c50 => ?_) (fun c50 => ?_)
        · have h := o_t c50 h
          refine lv_iload_n hx hb dX3_node_99 rfl (lv_at hl 3 rfl) ?_
          refine lv_iconst (v := 1) hx hb dX3_node_100 (by decide) ?_
          refine lv_icmp_lt (tgt := 161) hx hb dX3_node_101 (by decide) (fun c101 => ?_) (fun c101 => ?_)
          · have h := o_t c101 h
            exact w_X3_node_161 CX hK hsz length works kept work _ _ _ h hP hD hS (lv_sub hl [] rfl)
          · have h := o_f c101 h
            refine lv_iload_n hx hb dX3_node_104 rfl (lv_at hl 3 rfl) ?_
            refine lv_sipush (v := 400) hx hb dX3_node_105 (by decide) ?_
            refine lv_icmp_gt (tgt := 161) hx hb dX3_node_108 (by decide) (fun c108 => ?_) (fun c108 => ?_)
            · have h := o_t c108 h
              exact w_X3_node_161 CX hK hsz length works kept work _ _ _ h hP hD hS (lv_sub hl [] rfl)
            · have h := o_f c108 h
              refine lv_aload_n hx hb dX3_node_111 rfl (lv_at hl 1 rfl) ?_
              refine lv_bipush (v := 40) hx hb dX3_node_112 (by decide) ?_
              obtain ⟨z114, hz114, h⟩ := o_b h
              refine k_v (wn := (ws_X3_node cI cJ cB a0 a_kept a_spans a_work a_p1 a_p1_cells z114.1 works z114.2 spans work p1_rows p1_cells p1_cells_n)) (As := [.int 40]) (rest := []) F hNw hK hP hD hS hA (c_X3_letter l D cI cJ cB a0 a_spans a_work a_kept _ length works kept 40 N hz114) wm_940 cv_X3_letter [0, 1] [2, 3, 4, 5] [4, 5, 0, 1, 2, 3] (⟨rfl, rfl, rfl, by decide, rfl⟩ : Ix [0, 1] [2, 3, 4, 5] [4, 5, 0, 1, 2, 3] 6) rfl rfl rfl rfl rfl rfl ⟨rfl, rfl, by decide, by decide⟩ hl.1 rfl (Nat.le_of_ble_eq_true rfl) ⟨Nat.zero_le _, Nat.zero_le _⟩ dX3_node_114 (fun H locs hP hD hS => ?_)
              refine lv_aload_n hx hb dX3_node_117 rfl (lv_at hl 1 rfl) ?_
              refine lv_bipush (v := (-41)) hx hb dX3_node_118 (by decide) ?_
              obtain ⟨z120, hz120, h⟩ := o_b h
              refine k_v (wn := (ws_X3_node cI cJ cB a0 a_kept a_spans a_work a_p1 a_p1_cells z114.1 z120.1 z114.2 spans z120.2 p1_rows p1_cells p1_cells_n)) (As := [.int (-41)]) (rest := []) F hNw hK hP hD hS hA (c_X3_later l D cI cJ cB a0 a_kept a_spans a_work _ z114.1 works work (-41) N hz120) wm_936 cv_X3_later [0, 3] [1, 2, 4, 5] [4, 0, 1, 5, 2, 3] (⟨rfl, rfl, rfl, by decide, rfl⟩ : Ix [0, 3] [1, 2, 4, 5] [4, 0, 1, 5, 2, 3] 6) rfl rfl rfl rfl rfl rfl ⟨rfl, rfl, by decide, by decide⟩ hl.1 rfl (Nat.le_of_ble_eq_true rfl) ⟨Nat.zero_le _, Nat.zero_le _⟩ dX3_node_120 (fun H locs hP hD hS => ?_)
              refine lv_aload_n hx hb dX3_node_123 rfl (lv_at hl 1 rfl) ?_
              refine lv_iload_n hx hb dX3_node_124 rfl (lv_at hl 3 rfl) ?_
              refine lv_iconst (v := 1) hx hb dX3_node_125 (by decide) ?_
              refine lv_isub hx hb dX3_node_126 ?_
              obtain ⟨z127, hz127, h⟩ := o_b h
              refine k_v (wn := (ws_X3_node cI cJ cB a0 a_kept a_spans a_work a_p1 a_p1_cells z114.1 z127.1 z114.2 spans z127.2 p1_rows p1_cells p1_cells_n)) (As := [.int (x2 - 1)]) (rest := []) F hNw hK hP hD hS hA (c_X3_later l D cI cJ cB a0 a_kept a_spans a_work _ z114.1 z120.1 z120.2 (x2 - 1) N hz127) wm_936 cv_X3_later [0, 3] [1, 2, 4, 5] [4, 0, 1, 5, 2, 3] (⟨rfl, rfl, rfl, by decide, rfl⟩ : Ix [0, 3] [1, 2, 4, 5] [4, 0, 1, 5, 2, 3] 6) rfl rfl rfl rfl rfl rfl ⟨rfl, rfl, by decide, by decide⟩ hl.1 rfl (Nat.le_of_ble_eq_true rfl) ⟨Nat.zero_le _, Nat.zero_le _⟩ dX3_node_127 (fun H locs hP hD hS => ?_)
              refine lv_aload_n hx hb dX3_node_130 rfl (lv_at hl 1 rfl) ?_
              refine lv_iload_n hx hb dX3_node_131 rfl (lv_at hl 0 rfl) ?_
              refine lv_bipush (v := 6) hx hb dX3_node_132 (by decide) ?_
              refine lv_icmp_ne (tgt := 142) hx hb dX3_node_134 (by decide) (fun c134 => ?_) (fun c134 => ?_)
              · have h := o_f c134 h
                refine lv_bipush (v := (-124)) hx hb dX3_node_142 (by decide) ?_
                exact w_X3_node_144 CX hK hsz z114.1 z127.1 z114.2 z127.2 x2 (-124) _ _ _ h hP hD hS (lv_sub hl [1, 3] rfl)
              · have h := o_t c134 h
                refine lv_bipush (v := (-38)) hx hb dX3_node_137 (by decide) ?_
                refine lv_goto (tgt := 144) hx hb dX3_node_139 (by decide) ?_
                exact w_X3_node_144 CX hK hsz z114.1 z127.1 z114.2 z127.2 x2 (-38) _ _ _ h hP hD hS (lv_sub hl [1, 3] rfl)
        · have h := o_f c50 h
          refine lv_aload_n hx hb dX3_node_53 rfl (lv_at hl 1 rfl) ?_
          refine lv_iload_n hx hb dX3_node_54 rfl (lv_at hl 0 rfl) ?_
          refine lv_bipush (v := 8) hx hb dX3_node_55 (by decide) ?_
          refine lv_icmp_ne (tgt := 65) hx hb dX3_node_57 (by decide) (fun c57 => ?_) (fun c57 => ?_)
          · have h := o_f c57 h
            refine lv_bipush (v := 65) hx hb dX3_node_65 (by decide) ?_
            exact w_X3_node_67 CX hK hsz length works kept work x2 65 _ _ _ h hP hD hS (lv_sub hl [1, 2, 3] rfl)
          · have h := o_t c57 h
            refine lv_bipush (v := 69) hx hb dX3_node_60 (by decide) ?_
            refine lv_goto (tgt := 67) hx hb dX3_node_62 (by decide) ?_
            exact w_X3_node_67 CX hK hsz length works kept work x2 69 _ _ _ h hP hD hS (lv_sub hl [1, 2, 3] rfl)
      · have h := o_f c35 h
        refine lv_aload_n hx hb dX3_node_38 rfl (lv_at hl 1 rfl) ?_
        refine lv_aload_n hx hb dX3_node_39 rfl (lv_at hl 2 rfl) ?_
        refine lv_iload_n hx hb dX3_node_40 rfl (lv_at hl 3 rfl) ?_
        obtain ⟨z41, hz41, h⟩ := o_b h
        refine k_v (wn := (ws_X3_node cI cJ cB a0 a_kept a_spans a_work a_p1 a_p1_cells z41.1 works z41.2 spans work p1_rows p1_cells p1_cells_n)) (As := [.ref a_p1, .int x2]) (rest := []) F hNw hK hP hD hS hA (c_X3_atom l D cI cJ cB a0 a_spans a_work a_kept a_p1 a_p1_cells _ length works kept p1_rows p1_cells p1_cells_n x2 N hz41) wm_949 cv_X3_atom [0, 1, 4, 5] [2, 3] [2, 3, 0, 1, 4, 5] (⟨rfl, rfl, rfl, by decide, rfl⟩ : Ix [0, 1, 4, 5] [2, 3] [2, 3, 0, 1, 4, 5] 6) rfl rfl rfl rfl rfl rfl ⟨rfl, rfl, by decide, by decide⟩ hl.1 rfl (Nat.le_of_ble_eq_true rfl) ⟨Nat.zero_le _, Nat.zero_le _⟩ dX3_node_41 (fun H locs hP hD hS => ?_)
        refine lv_goto (tgt := 161) hx hb dX3_node_44 (by decide) ?_
        exact w_X3_node_161 CX hK hsz z41.1 works z41.2 work _ _ _ h hP hD hS (lv_sub hl [] rfl)
    · have h := o_t c12 h
      exact w_X3_node_15 CX hK hsz length works kept work z2 _ _ _ h hP hD hS (lv_sub hl [1, 0] rfl)
section G_X3_put
abbrev ws_X3_put (cI cJ cB : ClassId) (a0 a_kept a_spans a_work a_p1 a_p1_cells : Nat) (length : Int32) (works : Int32) (kept : Nat → Int32) (spans : Nat → Int32) (work : Nat → Int32) (p1_rows : Int32) (p1_cells : Nat → Int32) (p1_cells_n : Nat) : va_W := [(a0, .inr (5, [.ref a_kept, .ref a_spans, .ref a_work, .int length, .int works])), (a_kept, .inl (cB, 12000, .inl kept)), (a_spans, .inl (cI, 400, .inl spans)), (a_work, .inl (cI, 1600, .inl work)), (a_p1, .inr (7, [.ref a_p1_cells, .int p1_rows])), (a_p1_cells, .inl (cI, p1_cells_n, .inl p1_cells))]
abbrev rm_X3_put : Room := { frames := 4, cells := 0, slots := 0, locals := 94 }
def f_X3_put_83 (K30 : Int32 → Int32 → (Nat → Int32) → (Nat → Int32) → (Nat → Int32) → Int32 → (Nat → Int32) → Nat → Int32 → Option ((Int32) × (Int32) × (Nat → Int32) × (Nat → Int32) × (Nat → Int32))) (N : Nat) (length : Int32) (works : Int32) (kept : Nat → Int32) (spans : Nat → Int32) (work : Nat → Int32) (p1_rows : Int32) (p1_cells : Nat → Int32) (p1_cells_n : Nat) (y2 : Int32) : Option ((Int32) × (Int32) × (Nat → Int32) × (Nat → Int32) × (Nat → Int32)) := K30 length works kept spans work p1_rows p1_cells p1_cells_n (y2 + 1)
def f_X3_put_89 (N : Nat) (length : Int32) (works : Int32) (kept : Nat → Int32) (spans : Nat → Int32) (work : Nat → Int32) (p1_rows : Int32) (p1_cells : Nat → Int32) (p1_cells_n : Nat) : Option ((Int32) × (Int32) × (Nat → Int32) × (Nat → Int32) × (Nat → Int32)) := some (length, works, kept, spans, work)
def f_X3_put_30 (N : Nat) : Nat → Int32 → Int32 → (Nat → Int32) → (Nat → Int32) → (Nat → Int32) → Int32 → (Nat → Int32) → Nat → Int32 → Option ((Int32) × (Int32) × (Nat → Int32) × (Nat → Int32) × (Nat → Int32))
  | 0 => fun _ _ _ _ _ _ _ _ _ => none
  | n + 1 => fun length works kept spans work p1_rows p1_cells p1_cells_n y2 => ifb (1600 ≤ y2) (f_X3_put_89 N length works kept spans work p1_rows p1_cells p1_cells_n) (ifb (works ≤ 0) (f_X3_put_89 N length works kept spans work p1_rows p1_cells p1_cells_n) (ix (works - 1) 1600 (ifb (0 ≤ (work (works - 1).toNatClampNeg)) ((f_X3_node N length (works - 1) kept spans work p1_rows p1_cells p1_cells_n (work (works - 1).toNatClampNeg)).bind (fun z80 => f_X3_put_83 (f_X3_put_30 N n) N z80.1 z80.2.1 z80.2.2.1 spans z80.2.2.2 p1_rows p1_cells p1_cells_n y2)) ((f_X3_letter N length kept (-(work (works - 1).toNatClampNeg))).bind (fun z71 => f_X3_put_83 (f_X3_put_30 N n) N z71.1 (works - 1) z71.2 spans work p1_rows p1_cells p1_cells_n y2)))))
def f_X3_put (N : Nat) (length : Int32) (works : Int32) (kept : Nat → Int32) (spans : Nat → Int32) (work : Nat → Int32) (p1_rows : Int32) (p1_cells : Nat → Int32) (p1_cells_n : Nat) : Option ((Int32) × (Int32) × (Nat → Int32) × (Nat → Int32) × (Nat → Int32)) := (f_X5_measure N p1_rows p1_cells p1_cells_n spans 400).bind (fun z15 => (f_X3_later N 0 work (p1_rows - 1)).bind (fun z25 => f_X3_put_30 N N 0 z25.1 kept z15 z25.2 p1_rows p1_cells p1_cells_n 0))
variable {p : Program} {l : Launch} {e : Env} {s : State} {m : MethodId} {below : List Frame} {meth : Method} {c : Code} {args : Array Value} {x0 : Cond} {D : va_G} {cI cJ cB : ClassId} {sz N : Nat} {ws0 : va_W} {a0 a_kept a_spans a_work a_p1 a_p1_cells : Nat} {p1_rows : Int32} {p1_cells : Nat → Int32} {p1_cells_n : Nat} {z : (Int32) × (Int32) × (Nat → Int32) × (Nat → Int32) × (Nat → Int32)}
set_option maxHeartbeats 4000000 in
set_option maxRecDepth 100000 in
theorem w_X3_put_83 (CX : Cx p m c cX3_put 4 s args x0 RX3 meth none) (hK : va_K D vwCl (ty0 cI cJ cB) s) (hsz : s.heap.size = sz) {K30 : Int32 → Int32 → (Nat → Int32) → (Nat → Int32) → (Nat → Int32) → Int32 → (Nat → Int32) → Nat → Int32 → Option ((Int32) × (Int32) × (Nat → Int32) × (Nat → Int32) × (Nat → Int32))} (hK30 : ∀ (length : Int32) (works : Int32) (kept : Nat → Int32) (spans : Nat → Int32) (work : Nat → Int32) (y2 : Int32) (H : Heap) (locs : List Loc) (ls : Array Slot), K30 length works kept spans work p1_rows p1_cells p1_cells_n y2 = some z → va_P D vwCl (ws_X3_put cI cJ cB a0 a_kept a_spans a_work a_p1 a_p1_cells length works kept spans work p1_rows p1_cells p1_cells_n) H → va_D (va_A ws0 sz) (ws_X3_put cI cJ cB a0 a_kept a_spans a_work a_p1 a_p1_cells length works kept spans work p1_rows p1_cells p1_cells_n) → va_S (va_A ws0 sz) s.heap H locs → lv_has ls 4 [(0, .ref a0), (1, .ref a_p1), (2, .int y2)] → W p l e rm_X3_put s m args below meth c H locs 0 0 (MQ below (gQ D sz ws0 (ws_X3_put cI cJ cB a0 a_kept a_spans a_work a_p1 a_p1_cells z.1 z.2.1 z.2.2.1 z.2.2.2.1 z.2.2.2.2 p1_rows p1_cells p1_cells_n) none) args s 0 0 (va_A ws0 sz)) (F0 m 30 ls [])) : ∀ (length : Int32) (works : Int32) (kept : Nat → Int32) (spans : Nat → Int32) (work : Nat → Int32) (y2 : Int32) (H : Heap) (locs : List Loc) (ls : Array Slot), f_X3_put_83 K30 N length works kept spans work p1_rows p1_cells p1_cells_n y2 = some z → va_P D vwCl (ws_X3_put cI cJ cB a0 a_kept a_spans a_work a_p1 a_p1_cells length works kept spans work p1_rows p1_cells p1_cells_n) H → va_D (va_A ws0 sz) (ws_X3_put cI cJ cB a0 a_kept a_spans a_work a_p1 a_p1_cells length works kept spans work p1_rows p1_cells p1_cells_n) → va_S (va_A ws0 sz) s.heap H locs → lv_has ls 4 [(0, .ref a0), (1, .ref a_p1), (2, .int y2)] → W p l e rm_X3_put s m args below meth c H locs 0 0 (MQ below (gQ D sz ws0 (ws_X3_put cI cJ cB a0 a_kept a_spans a_work a_p1 a_p1_cells z.1 z.2.1 z.2.2.1 z.2.2.2.1 z.2.2.2.2 p1_rows p1_cells p1_cells_n) none) args s 0 0 (va_A ws0 sz)) (F0 m 83 ls []) := by
  obtain ⟨F, hr, hlk, hNw⟩ := id CX
  have hx := F.1
  have hb := F.2.1
  have hown := F.2.2.2.1
  have hA : ∀ q, s.heap.size ≤ q → va_A ws0 sz q := fun q hq => Or.inr (hsz ▸ hq)
  intro length works kept spans work y2 H locs ls h hP hD hS hl
  unfold f_X3_put_83 at h
  refine lv_iinc (v := y2 + 1) (lv' := [(2, .int (y2 + 1)), (0, .ref a0), (1, .ref a_p1)]) hx hb dX3_put_83 hl (k := 2) rfl rfl (by decide) rfl (fun ls hl => ?_)
  refine lv_goto (tgt := 30) hx hb dX3_put_86 (by decide) ?_
  exact hK30 length works kept spans work (y2 + 1) _ _ _ h hP hD hS (lv_sub hl [1, 2, 0] rfl)
set_option maxHeartbeats 4000000 in
set_option maxRecDepth 100000 in
theorem w_X3_put_89 (CX : Cx p m c cX3_put 4 s args x0 RX3 meth none) (hK : va_K D vwCl (ty0 cI cJ cB) s) (hsz : s.heap.size = sz) : ∀ (length : Int32) (works : Int32) (kept : Nat → Int32) (spans : Nat → Int32) (work : Nat → Int32) (H : Heap) (locs : List Loc) (ls : Array Slot), f_X3_put_89 N length works kept spans work p1_rows p1_cells p1_cells_n = some z → va_P D vwCl (ws_X3_put cI cJ cB a0 a_kept a_spans a_work a_p1 a_p1_cells length works kept spans work p1_rows p1_cells p1_cells_n) H → va_D (va_A ws0 sz) (ws_X3_put cI cJ cB a0 a_kept a_spans a_work a_p1 a_p1_cells length works kept spans work p1_rows p1_cells p1_cells_n) → va_S (va_A ws0 sz) s.heap H locs → lv_has ls 4 [] → W p l e rm_X3_put s m args below meth c H locs 0 0 (MQ below (gQ D sz ws0 (ws_X3_put cI cJ cB a0 a_kept a_spans a_work a_p1 a_p1_cells z.1 z.2.1 z.2.2.1 z.2.2.2.1 z.2.2.2.2 p1_rows p1_cells p1_cells_n) none) args s 0 0 (va_A ws0 sz)) (F0 m 89 ls []) := by
  obtain ⟨F, hr, hlk, hNw⟩ := id CX
  have hx := F.1
  have hb := F.2.1
  have hown := F.2.2.2.1
  have hA : ∀ q, s.heap.size ≤ q → va_A ws0 sz q := fun q hq => Or.inr (hsz ▸ hq)
  intro length works kept spans work H locs ls h hP hD hS hl
  unfold f_X3_put_89 at h
  obtain rfl := Option.some.inj h
  exact r_vret F hr hlk dX3_put_89 hsz hP hD hS
set_option maxHeartbeats 4000000 in
set_option maxRecDepth 100000 in
theorem w_X3_put_30 (CX : Cx p m c cX3_put 4 s args x0 RX3 meth none) (hK : va_K D vwCl (ty0 cI cJ cB) s) (hsz : s.heap.size = sz) : ∀ (n : Nat), ∀ (length : Int32) (works : Int32) (kept : Nat → Int32) (spans : Nat → Int32) (work : Nat → Int32) (y2 : Int32) (H : Heap) (locs : List Loc) (ls : Array Slot), f_X3_put_30 N n length works kept spans work p1_rows p1_cells p1_cells_n y2 = some z → va_P D vwCl (ws_X3_put cI cJ cB a0 a_kept a_spans a_work a_p1 a_p1_cells length works kept spans work p1_rows p1_cells p1_cells_n) H → va_D (va_A ws0 sz) (ws_X3_put cI cJ cB a0 a_kept a_spans a_work a_p1 a_p1_cells length works kept spans work p1_rows p1_cells p1_cells_n) → va_S (va_A ws0 sz) s.heap H locs → lv_has ls 4 [(0, .ref a0), (1, .ref a_p1), (2, .int y2)] → W p l e rm_X3_put s m args below meth c H locs 0 0 (MQ below (gQ D sz ws0 (ws_X3_put cI cJ cB a0 a_kept a_spans a_work a_p1 a_p1_cells z.1 z.2.1 z.2.2.1 z.2.2.2.1 z.2.2.2.2 p1_rows p1_cells p1_cells_n) none) args s 0 0 (va_A ws0 sz)) (F0 m 30 ls []) := by
  obtain ⟨F, hr, hlk, hNw⟩ := id CX
  have hx := F.1
  have hb := F.2.1
  have hown := F.2.2.2.1
  have hA : ∀ q, s.heap.size ≤ q → va_A ws0 sz q := fun q hq => Or.inr (hsz ▸ hq)
  intro n
  induction n with
  | zero =>
    intro length works kept spans work y2 H locs ls h
    cases h
  | succ n ih =>
    intro length works kept spans work y2 H locs ls h hP hD hS hl
    unfold f_X3_put_30 at h
    refine lv_iload_n hx hb dX3_put_30 rfl (lv_at hl 2 rfl) ?_
    refine lv_sipush (v := 1600) hx hb dX3_put_31 (by decide) ?_
    refine lv_icmp_ge (tgt := 89) hx hb dX3_put_34 (by decide) (fun c34 => ?_) (fun c34 => ?_)
    · have h := o_t c34 h
      exact w_X3_put_89 CX hK hsz length works kept spans work _ _ _ h hP hD hS (lv_sub hl [] rfl)
    · have h := o_f c34 h
      refine lv_aload_n hx hb dX3_put_37 rfl (lv_at hl 0 rfl) ?_
      refine r_get F hK hP 0 4 rfl inW_X3 wm_252 rfl (by decide) rfl dX3_put_38 ?_
      refine lv_if_le (tgt := 89) hx hb dX3_put_41 (by decide) (fun c41 => ?_) (fun c41 => ?_)
      · have h := o_t c41 h
        exact w_X3_put_89 CX hK hsz length works kept spans work _ _ _ h hP hD hS (lv_sub hl [] rfl)
      · have h := o_f c41 h
        refine lv_aload_n hx hb dX3_put_44 rfl (lv_at hl 0 rfl) ?_
        refine lv_dup hx hb dX3_put_45 rfl ?_
        refine r_get F hK hP 0 4 rfl inW_X3 wm_252 rfl (by decide) rfl dX3_put_46 ?_
        refine lv_iconst (v := 1) hx hb dX3_put_49 (by decide) ?_
        refine lv_isub hx hb dX3_put_50 ?_
        refine r_put (wn := (ws_X3_put cI cJ cB a0 a_kept a_spans a_work a_p1 a_p1_cells length (works - 1) kept spans work p1_rows p1_cells p1_cells_n)) F hK hP hD hS 0 4 rfl inW_X3 wm_252 tyX3_ok nmX3 rfl rfl (by decide) rfl rfl (Nat.le_of_ble_eq_true rfl) rfl dX3_put_51 (fun H locs hP hD hS => ?_)
        refine lv_aload_n hx hb dX3_put_54 rfl (lv_at hl 0 rfl) ?_
        refine r_get F hK hP 0 2 rfl inW_X3 wm_249 rfl (by decide) rfl dX3_put_55 ?_
        refine lv_aload_n hx hb dX3_put_58 rfl (lv_at hl 0 rfl) ?_
        refine r_get F hK hP 0 4 rfl inW_X3 wm_252 rfl (by decide) rfl dX3_put_59 ?_
        obtain ⟨hi62, h⟩ := o_ix h
        refine va_iald hx hb hK hP 3 0 rfl rfl hi62 dX3_put_62 ?_
        refine lv_istore_n (lv' := [(3, .int (work (works - 1).toNatClampNeg)), (0, .ref a0), (1, .ref a_p1), (2, .int y2)]) hx hb dX3_put_63 rfl hl (by decide) rfl (fun ls hl => ?_)
        refine lv_iload_n hx hb dX3_put_64 rfl (lv_at hl 0 rfl) ?_
        refine lv_if_ge (tgt := 77) hx hb dX3_put_65 (by decide) (fun c65 => ?_) (fun c65 => ?_)
        · have h := o_t c65 h
          refine lv_aload_n hx hb dX3_put_77 rfl (lv_at hl 1 rfl) ?_
          refine lv_aload_n hx hb dX3_put_78 rfl (lv_at hl 2 rfl) ?_
          refine lv_iload_n hx hb dX3_put_79 rfl (lv_at hl 0 rfl) ?_
          obtain ⟨z80, hz80, h⟩ := o_b h
          refine k_v (wn := (ws_X3_put cI cJ cB a0 a_kept a_spans a_work a_p1 a_p1_cells z80.1 z80.2.1 z80.2.2.1 spans z80.2.2.2 p1_rows p1_cells p1_cells_n)) (As := [.ref a_p1, .int (work (works - 1).toNatClampNeg)]) (rest := []) F hNw hK hP hD hS hA (c_X3_node l D cI cJ cB a0 a_kept a_spans a_work a_p1 a_p1_cells _ length (works - 1) kept spans work p1_rows p1_cells p1_cells_n (work (works - 1).toNatClampNeg) N hz80) wm_944 cv_X3_node [0, 1, 2, 3, 4, 5] [] [0, 1, 2, 3, 4, 5] (⟨rfl, rfl, rfl, by decide, rfl⟩ : Ix [0, 1, 2, 3, 4, 5] [] [0, 1, 2, 3, 4, 5] 6) rfl rfl rfl rfl rfl rfl ⟨rfl, rfl, by decide, by decide⟩ hl.1 rfl (Nat.le_of_ble_eq_true rfl) ⟨Nat.zero_le _, Nat.zero_le _⟩ dX3_put_80 (fun H locs hP hD hS => ?_)
          exact w_X3_put_83 CX hK hsz (hK30 := ih) z80.1 z80.2.1 z80.2.2.1 spans z80.2.2.2 y2 _ _ _ h hP hD hS (lv_sub hl [1, 2, 3] rfl)
        · have h := o_f c65 h
          refine lv_aload_n hx hb dX3_put_68 rfl (lv_at hl 1 rfl) ?_
          refine lv_iload_n hx hb dX3_put_69 rfl (lv_at hl 0 rfl) ?_
          refine lv_ineg hx hb dX3_put_70 ?_
          obtain ⟨z71, hz71, h⟩ := o_b h
          refine k_v (wn := (ws_X3_put cI cJ cB a0 a_kept a_spans a_work a_p1 a_p1_cells z71.1 (works - 1) z71.2 spans work p1_rows p1_cells p1_cells_n)) (As := [.int (-(work (works - 1).toNatClampNeg))]) (rest := []) F hNw hK hP hD hS hA (c_X3_letter l D cI cJ cB a0 a_spans a_work a_kept _ length (works - 1) kept (-(work (works - 1).toNatClampNeg)) N hz71) wm_940 cv_X3_letter [0, 1] [2, 3, 4, 5] [4, 5, 0, 1, 2, 3] (⟨rfl, rfl, rfl, by decide, rfl⟩ : Ix [0, 1] [2, 3, 4, 5] [4, 5, 0, 1, 2, 3] 6) rfl rfl rfl rfl rfl rfl ⟨rfl, rfl, by decide, by decide⟩ hl.1 rfl (Nat.le_of_ble_eq_true rfl) ⟨Nat.zero_le _, Nat.zero_le _⟩ dX3_put_71 (fun H locs hP hD hS => ?_)
          refine lv_goto (tgt := 83) hx hb dX3_put_74 (by decide) ?_
          exact w_X3_put_83 CX hK hsz (hK30 := ih) z71.1 (works - 1) z71.2 spans work y2 _ _ _ h hP hD hS (lv_sub hl [1, 2, 3] rfl)
end G_X3_put
set_option maxHeartbeats 4000000 in
set_option maxRecDepth 100000 in
theorem c_X3_put (l : Launch) (D : va_G) (cI cJ cB : ClassId) (a0 a_kept a_spans a_work a_p1 a_p1_cells : Nat) (sz : Nat) (length : Int32) (works : Int32) (kept : Nat → Int32) (spans : Nat → Int32) (work : Nat → Int32) (p1_rows : Int32) (p1_cells : Nat → Int32) (p1_cells_n : Nat) (N : Nat) {z : (Int32) × (Int32) × (Nat → Int32) × (Nat → Int32) × (Nat → Int32)} (h : f_X3_put N length works kept spans work p1_rows p1_cells p1_cells_n = some z) : Mg l yX3_put cX3_put 4 none rm_X3_put D (ty0 cI cJ cB) [.ref a0, .ref a_p1] sz (ws_X3_put cI cJ cB a0 a_kept a_spans a_work a_p1 a_p1_cells length works kept spans work p1_rows p1_cells p1_cells_n) none (ws_X3_put cI cJ cB a0 a_kept a_spans a_work a_p1 a_p1_cells z.1 z.2.1 z.2.2.1 z.2.2.2.1 z.2.2.2.2 p1_rows p1_cells p1_cells_n) := by
  refine Mg.of (by decide) (Nat.le_of_ble_eq_true rfl) ?_
  intro p e s m below meth c CX hK hsz hP hD ls hl
  have CX : Cx p m c cX3_put 4 s ([.ref a0, .ref a_p1] : List Value).toArray (Cond.code yX3_put cX3_put 4 none) RX3 meth none := CX
  obtain ⟨F, hr, hlk, hNw⟩ := id CX
  have hx := F.1
  have hb := F.2.1
  have hown := F.2.2.2.1
  have hl : lv_has ls 4 [(0, .ref a0), (1, .ref a_p1)] := hl
  have hS : va_S (va_A (ws_X3_put cI cJ cB a0 a_kept a_spans a_work a_p1 a_p1_cells length works kept spans work p1_rows p1_cells p1_cells_n) sz) s.heap s.heap [] := va_S.rf
  have hA : ∀ q, s.heap.size ≤ q → va_A (ws_X3_put cI cJ cB a0 a_kept a_spans a_work a_p1 a_p1_cells length works kept spans work p1_rows p1_cells p1_cells_n) sz q := fun q hq => Or.inr (hsz ▸ hq)
  unfold f_X3_put at h
  refine lv_aload_n hx hb dX3_put_0 rfl (lv_at hl 0 rfl) ?_
  refine lv_iconst (v := 0) hx hb dX3_put_1 (by decide) ?_
  refine r_put (wn := (ws_X3_put cI cJ cB a0 a_kept a_spans a_work a_p1 a_p1_cells 0 works kept spans work p1_rows p1_cells p1_cells_n)) F hK hP hD hS 0 3 rfl inW_X3 wm_250 tyX3_ok nmX3 rfl rfl (by decide) rfl rfl (Nat.le_of_ble_eq_true rfl) rfl dX3_put_2 (fun H locs hP hD hS => ?_)
  refine lv_aload_n hx hb dX3_put_5 rfl (lv_at hl 0 rfl) ?_
  refine lv_iconst (v := 0) hx hb dX3_put_6 (by decide) ?_
  refine r_put (wn := (ws_X3_put cI cJ cB a0 a_kept a_spans a_work a_p1 a_p1_cells 0 0 kept spans work p1_rows p1_cells p1_cells_n)) F hK hP hD hS 0 4 rfl inW_X3 wm_252 tyX3_ok nmX3 rfl rfl (by decide) rfl rfl (Nat.le_of_ble_eq_true rfl) rfl dX3_put_7 (fun H locs hP hD hS => ?_)
  refine lv_aload_n hx hb dX3_put_10 rfl (lv_at hl 1 rfl) ?_
  refine lv_aload_n hx hb dX3_put_11 rfl (lv_at hl 0 rfl) ?_
  refine r_get F hK hP 0 1 rfl inW_X3 wm_248 rfl (by decide) rfl dX3_put_12 ?_
  obtain ⟨z15, hz15, h⟩ := o_b h
  refine k_v (wn := (ws_X3_put cI cJ cB a0 a_kept a_spans a_work a_p1 a_p1_cells 0 0 kept z15 work p1_rows p1_cells p1_cells_n)) (As := [.ref a_spans]) (rest := []) F hNw hK hP hD hS hA (c_X5_measure l D cI cJ cB a_p1 a_p1_cells a_spans _ p1_rows p1_cells p1_cells_n spans 400 N hz15) wm_935 cv_X5_measure [4, 5, 2] [0, 1, 3] [0, 1, 5, 2, 3, 4] (⟨rfl, rfl, rfl, by decide, rfl⟩ : Ix [4, 5, 2] [0, 1, 3] [0, 1, 5, 2, 3, 4] 6) rfl rfl rfl rfl rfl rfl ⟨rfl, rfl, by decide, by decide⟩ hl.1 rfl (Nat.le_of_ble_eq_true rfl) ⟨Nat.zero_le _, Nat.zero_le _⟩ dX3_put_15 (fun H locs hP hD hS => ?_)
  refine lv_aload_n hx hb dX3_put_18 rfl (lv_at hl 0 rfl) ?_
  refine lv_aload_n hx hb dX3_put_19 rfl (lv_at hl 1 rfl) ?_
  refine r_getN F hNw hK hP 4 1 rfl inW_X5 nf_X3_37 rfl (by decide) rfl dX3_put_20 ?_
  refine lv_iconst (v := 1) hx hb dX3_put_23 (by decide) ?_
  refine lv_isub hx hb dX3_put_24 ?_
  obtain ⟨z25, hz25, h⟩ := o_b h
  refine k_v (wn := (ws_X3_put cI cJ cB a0 a_kept a_spans a_work a_p1 a_p1_cells 0 z25.1 kept z15 z25.2 p1_rows p1_cells p1_cells_n)) (As := [.int (p1_rows - 1)]) (rest := []) F hNw hK hP hD hS hA (c_X3_later l D cI cJ cB a0 a_kept a_spans a_work _ 0 0 work (p1_rows - 1) N hz25) wm_936 cv_X3_later [0, 3] [1, 2, 4, 5] [4, 0, 1, 5, 2, 3] (⟨rfl, rfl, rfl, by decide, rfl⟩ : Ix [0, 3] [1, 2, 4, 5] [4, 0, 1, 5, 2, 3] 6) rfl rfl rfl rfl rfl rfl ⟨rfl, rfl, by decide, by decide⟩ hl.1 rfl (Nat.le_of_ble_eq_true rfl) ⟨Nat.zero_le _, Nat.zero_le _⟩ dX3_put_25 (fun H locs hP hD hS => ?_)
  refine lv_iconst (v := 0) hx hb dX3_put_28 (by decide) ?_
  refine lv_istore_n (lv' := [(2, .int 0), (0, .ref a0), (1, .ref a_p1)]) hx hb dX3_put_29 rfl hl (by decide) rfl (fun ls hl => ?_)
  exact w_X3_put_30 CX hK hsz N 0 z25.1 kept z15 z25.2 0 _ _ _ h hP hD hS (lv_sub hl [1, 2, 0] rfl)
