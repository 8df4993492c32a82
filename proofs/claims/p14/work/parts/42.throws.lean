theorem wm_83 : (Cond.initialized "java/lang/IllegalArgumentException") ∈ W0 := q_l 1 13 (by decide +kernel) (by decide +kernel)
theorem wm_94 : (Cond.initialized "java/lang/UnsupportedOperationException") ∈ W0 := q_l 1 24 (by decide +kernel) (by decide +kernel)
theorem wm_95 : (Cond.initialized "java/lang/IllegalStateException") ∈ W0 := q_l 1 25 (by decide +kernel) (by decide +kernel)
theorem wm_991 : (Cond.classLink "LinearTruths" 64 "java/lang/IllegalArgumentException") ∈ W0 := q_l 4 201 (by decide +kernel) (by decide +kernel)
theorem wm_994 : (Cond.classLink "LinearTruths" 75 "java/lang/UnsupportedOperationException") ∈ W0 := q_l 4 204 (by decide +kernel) (by decide +kernel)
theorem wm_1032 : (Cond.classLink "LinearTruths" 117 "java/lang/IllegalStateException") ∈ W0 := q_l 5 2 (by decide +kernel) (by decide +kernel)
theorem exg_64_68 : ∀ w ∈ Cond.classLink RX6 64 "java/lang/IllegalArgumentException" :: Cond.initialized "java/lang/IllegalArgumentException" :: vx_atS RX6 68 "java/lang/IllegalArgumentException" ["java/lang/RuntimeException", "java/lang/Exception"], vx_ot w = true := by decide +kernel
theorem exg_75_79 : ∀ w ∈ Cond.classLink RX6 75 "java/lang/UnsupportedOperationException" :: Cond.initialized "java/lang/UnsupportedOperationException" :: vx_atS RX6 79 "java/lang/UnsupportedOperationException" ["java/lang/RuntimeException", "java/lang/Exception"], vx_ot w = true := by decide +kernel
theorem exg_117_121 : ∀ w ∈ Cond.classLink RX6 117 "java/lang/IllegalStateException" :: Cond.initialized "java/lang/IllegalStateException" :: vx_atS RX6 121 "java/lang/IllegalStateException" ["java/lang/RuntimeException", "java/lang/Exception"], vx_ot w = true := by decide +kernel
section G_X6_type_I
abbrev ws_X6_type_I (cI cJ cB : ClassId) (a0 a_reader a_freer a_scribe a_formula a_copy a_above a_below a_spans a_found : Nat) (loose : Int32) : va_W := [(a0, .inr (8, [.ref a_reader, .ref a_freer, .ref a_scribe, .ref a_formula, .ref a_copy, .ref a_above, .ref a_below, .ref a_spans, .ref a_found, .int loose]))]
abbrev rm_X6_type_I : Room := { frames := 6, cells := 1, slots := 6, locals := 90 }
def f_X6_type_I_10 (N : Nat) : Option (Unit) := some ()
def f_X6_type_I (N : Nat) (x1 : Int64) (x2 : Int32) : Option (Unit) := ifb (x2 < 0) (f_X6_type_I_10 N ) (ifb (x2 ≤ 8) (none) (f_X6_type_I_10 N ))
variable {p : Program} {l : Launch} {e : Env} {s : State} {m : MethodId} {below : List Frame} {meth : Method} {c : Code} {args : Array Value} {x0 : Cond} {D : va_G} {cI cJ cB : ClassId} {sz N : Nat} {ws0 : va_W} {a0 a_reader a_freer a_scribe a_formula a_copy a_above a_below a_spans a_found : Nat} {loose : Int32} {z : Unit}
set_option maxHeartbeats 4000000 in
set_option maxRecDepth 100000 in
theorem w_X6_type_I_10 (CX : Cx p m c cX6_type 5 s args x0 RX6 meth (some .int)) (hK : va_K D vwCl (ty0 cI cJ cB) s) (hsz : s.heap.size = sz) (hst : l.stackTraces = false) (htab : ∀ x ∈ c.exceptionTable.toList, False) (hex : exOk (va_A ws0 sz) s) : ∀ (H : Heap) (locs : List Loc) (ls : Array Slot), f_X6_type_I_10 N  = some z → va_P D vwCl (ws_X6_type_I cI cJ cB a0 a_reader a_freer a_scribe a_formula a_copy a_above a_below a_spans a_found loose) H → va_D (va_A ws0 sz) (ws_X6_type_I cI cJ cB a0 a_reader a_freer a_scribe a_formula a_copy a_above a_below a_spans a_found loose) → va_S (va_A ws0 sz) s.heap H locs → lv_has ls 5 [] → W p l e rm_X6_type_I s m args below meth c H locs 0 0 (vx_MQ below (fun _ _ _ _ => False) (tQ D sz ws0 (ws_X6_type_I cI cJ cB a0 a_reader a_freer a_scribe a_formula a_copy a_above a_below a_spans a_found loose) "java/lang/IllegalArgumentException") args s 1 6 (va_A ws0 sz)) (F0 m 10 ls []) := by
  obtain ⟨F, hr, hlk, hNw⟩ := id CX
  have hx := F.1
  have hb := F.2.1
  have hown := F.2.2.2.1
  have hA : ∀ q, s.heap.size ≤ q → va_A ws0 sz q := fun q hq => Or.inr (hsz ▸ hq)
  intro  H locs ls h hP hD hS hl
  unfold f_X6_type_I_10 at h
  obtain rfl := Option.some.inj h
  exact r_throw (text := "n is not 0 .. 8") F hlk hst htab hex (by decide +kernel) wm_991 wm_83 (by decide) ex_in_I exg_64_68 hP hD hS hl.1 dX6_type_10 dX6_type_13 dX6_type_14 dX6_type_16 dX6_type_19 (by decide) (by decide) (by decide) (by decide)
end G_X6_type_I
set_option maxHeartbeats 4000000 in
set_option maxRecDepth 100000 in
theorem c_X6_type_I (l : Launch) (D : va_G) (cI cJ cB : ClassId) (hst : l.stackTraces = false) (a0 a_reader a_freer a_scribe a_formula a_copy a_above a_below a_spans a_found : Nat) (sz : Nat) (loose : Int32) (x1 : Int64) (x2 : Int32) (N : Nat) {z : Unit} (h : f_X6_type_I N x1 x2 = some z) : Mx l yX6_type cX6_type 5 (some .int) rm_X6_type_I D (ty0 cI cJ cB) [.ref a0, .long x1, .int x2] sz (ws_X6_type_I cI cJ cB a0 a_reader a_freer a_scribe a_formula a_copy a_above a_below a_spans a_found loose) "java/lang/IllegalArgumentException" (ws_X6_type_I cI cJ cB a0 a_reader a_freer a_scribe a_formula a_copy a_above a_below a_spans a_found loose) := by
  refine Mx.of (by decide) (Nat.le_of_ble_eq_true rfl) ?_
  intro p e s m below meth c CX htab hex hK hsz hP hD ls hl
  have CX : Cx p m c cX6_type 5 s ([.ref a0, .long x1, .int x2] : List Value).toArray (Cond.code yX6_type cX6_type 5 (some .int)) RX6 meth (some .int) := CX
  obtain ⟨F, hr, hlk, hNw⟩ := id CX
  have hx := F.1
  have hb := F.2.1
  have hown := F.2.2.2.1
  have hl : lv_has ls 5 [(0, .ref a0), (1, .long x1), (3, .int x2)] := hl
  have hS : va_S (va_A (ws_X6_type_I cI cJ cB a0 a_reader a_freer a_scribe a_formula a_copy a_above a_below a_spans a_found loose) sz) s.heap s.heap [] := va_S.rf
  have hA : ∀ q, s.heap.size ≤ q → va_A (ws_X6_type_I cI cJ cB a0 a_reader a_freer a_scribe a_formula a_copy a_above a_below a_spans a_found loose) sz q := fun q hq => Or.inr (hsz ▸ hq)
  unfold f_X6_type_I at h
  refine lv_iload_n hx hb dX6_type_0 rfl (lv_at hl 2 rfl) ?_
  refine lv_if_lt (tgt := 10) hx hb dX6_type_1 (by decide) (fun c1 => ?_) (fun c1 => ?_)
  · have h := o_t c1 h
    exact w_X6_type_I_10 CX hK hsz hst htab hex  _ _ _ h hP hD hS (lv_sub hl [] rfl)
  · have h := o_f c1 h
    refine lv_iload_n hx hb dX6_type_4 rfl (lv_at hl 2 rfl) ?_
    refine lv_bipush (v := 8) hx hb dX6_type_5 (by decide) ?_
    refine lv_icmp_le (tgt := 20) hx hb dX6_type_7 (by decide) (fun c7 => ?_) (fun c7 => ?_)
    · have h := o_t c7 h
      cases h
    · have h := o_f c7 h
      exact w_X6_type_I_10 CX hK hsz hst htab hex  _ _ _ h hP hD hS (lv_sub hl [] rfl)
section G_X6_type_U
abbrev ws_X6_type_U (cI cJ cB : ClassId) (a0 a_freer a_scribe a_formula a_copy a_above a_below a_spans a_found a_reader a_reader_bytes a_reader_bench a_reader_sum a_reader_waiting : Nat) (loose : Int32) (reader_length : Int32) (reader_waits : Int32) (reader_at : Int32) (reader_opened : Int32) (reader_parens : Int32) (reader_great : Int32) : va_W := [(a0, .inr (8, [.ref a_reader, .ref a_freer, .ref a_scribe, .ref a_formula, .ref a_copy, .ref a_above, .ref a_below, .ref a_spans, .ref a_found, .int loose])), (a_reader, .inr (4, [.ref a_reader_bytes, .ref a_reader_bench, .ref a_reader_sum, .ref a_reader_waiting, .int reader_length, .int reader_waits, .int reader_at, .int reader_opened, .int reader_parens, .int reader_great]))]
abbrev rm_X6_type_U : Room := { frames := 6, cells := 1, slots := 6, locals := 90 }
def f_X6_type_U (N : Nat) (reader_length : Int32) (x1 : Int64) (x2 : Int32) : Option (Unit) := ifb (x2 < 0) (none) (ifb (x2 ≤ 8) (ifb ((reader_length + x2) ≤ 240) (none) (some ())) (none))
variable {p : Program} {l : Launch} {e : Env} {s : State} {m : MethodId} {below : List Frame} {meth : Method} {c : Code} {args : Array Value} {x0 : Cond} {D : va_G} {cI cJ cB : ClassId} {sz N : Nat} {ws0 : va_W} {a0 a_freer a_scribe a_formula a_copy a_above a_below a_spans a_found a_reader a_reader_bytes a_reader_bench a_reader_sum a_reader_waiting : Nat} {loose : Int32} {reader_length : Int32} {reader_waits : Int32} {reader_at : Int32} {reader_opened : Int32} {reader_parens : Int32} {reader_great : Int32} {z : Unit}
end G_X6_type_U
set_option maxHeartbeats 4000000 in
set_option maxRecDepth 100000 in
theorem c_X6_type_U (l : Launch) (D : va_G) (cI cJ cB : ClassId) (hst : l.stackTraces = false) (a0 a_freer a_scribe a_formula a_copy a_above a_below a_spans a_found a_reader a_reader_bytes a_reader_bench a_reader_sum a_reader_waiting : Nat) (sz : Nat) (loose : Int32) (reader_length : Int32) (reader_waits : Int32) (reader_at : Int32) (reader_opened : Int32) (reader_parens : Int32) (reader_great : Int32) (x1 : Int64) (x2 : Int32) (N : Nat) {z : Unit} (h : f_X6_type_U N reader_length x1 x2 = some z) : Mx l yX6_type cX6_type 5 (some .int) rm_X6_type_U D (ty0 cI cJ cB) [.ref a0, .long x1, .int x2] sz (ws_X6_type_U cI cJ cB a0 a_freer a_scribe a_formula a_copy a_above a_below a_spans a_found a_reader a_reader_bytes a_reader_bench a_reader_sum a_reader_waiting loose reader_length reader_waits reader_at reader_opened reader_parens reader_great) "java/lang/UnsupportedOperationException" (ws_X6_type_U cI cJ cB a0 a_freer a_scribe a_formula a_copy a_above a_below a_spans a_found a_reader a_reader_bytes a_reader_bench a_reader_sum a_reader_waiting loose reader_length reader_waits reader_at reader_opened reader_parens reader_great) := by
  refine Mx.of (by decide) (Nat.le_of_ble_eq_true rfl) ?_
  intro p e s m below meth c CX htab hex hK hsz hP hD ls hl
  have CX : Cx p m c cX6_type 5 s ([.ref a0, .long x1, .int x2] : List Value).toArray (Cond.code yX6_type cX6_type 5 (some .int)) RX6 meth (some .int) := CX
  obtain ⟨F, hr, hlk, hNw⟩ := id CX
  have hx := F.1
  have hb := F.2.1
  have hown := F.2.2.2.1
  have hl : lv_has ls 5 [(0, .ref a0), (1, .long x1), (3, .int x2)] := hl
  have hS : va_S (va_A (ws_X6_type_U cI cJ cB a0 a_freer a_scribe a_formula a_copy a_above a_below a_spans a_found a_reader a_reader_bytes a_reader_bench a_reader_sum a_reader_waiting loose reader_length reader_waits reader_at reader_opened reader_parens reader_great) sz) s.heap s.heap [] := va_S.rf
  have hA : ∀ q, s.heap.size ≤ q → va_A (ws_X6_type_U cI cJ cB a0 a_freer a_scribe a_formula a_copy a_above a_below a_spans a_found a_reader a_reader_bytes a_reader_bench a_reader_sum a_reader_waiting loose reader_length reader_waits reader_at reader_opened reader_parens reader_great) sz q := fun q hq => Or.inr (hsz ▸ hq)
  unfold f_X6_type_U at h
  refine lv_iload_n hx hb dX6_type_0 rfl (lv_at hl 2 rfl) ?_
  refine lv_if_lt (tgt := 10) hx hb dX6_type_1 (by decide) (fun c1 => ?_) (fun c1 => ?_)
  · have h := o_t c1 h
    cases h
  · have h := o_f c1 h
    refine lv_iload_n hx hb dX6_type_4 rfl (lv_at hl 2 rfl) ?_
    refine lv_bipush (v := 8) hx hb dX6_type_5 (by decide) ?_
    refine lv_icmp_le (tgt := 20) hx hb dX6_type_7 (by decide) (fun c7 => ?_) (fun c7 => ?_)
    · have h := o_t c7 h
      refine lv_aload_n hx hb dX6_type_20 rfl (lv_at hl 0 rfl) ?_
      refine r_get F hK hP 0 0 rfl inW_X6 wm_583 rfl (by decide) rfl dX6_type_21 ?_
      refine r_getN F hNw hK hP 1 4 rfl inW_X2 nf_X6_71 rfl (by decide) rfl dX6_type_24 ?_
      refine lv_iload_n hx hb dX6_type_27 rfl (lv_at hl 2 rfl) ?_
      refine lv_iadd hx hb dX6_type_28 ?_
      refine lv_sipush (v := 240) hx hb dX6_type_29 (by decide) ?_
      refine lv_icmp_le (tgt := 45) hx hb dX6_type_32 (by decide) (fun c32 => ?_) (fun c32 => ?_)
      · have h := o_t c32 h
        cases h
      · have h := o_f c32 h
        obtain rfl := Option.some.inj h
        exact r_throw (text := "the text would have more than 240 bytes") F hlk hst htab hex (by decide +kernel) wm_994 wm_94 (by decide) ex_in_U exg_75_79 hP hD hS hl.1 dX6_type_35 dX6_type_38 dX6_type_39 dX6_type_41 dX6_type_44 (by decide) (by decide) (by decide) (by decide)
    · have h := o_f c7 h
      cases h
section G_X6_value_I
abbrev ws_X6_value_I (cI cJ cB : ClassId) (a0 a_reader a_freer a_scribe a_formula a_copy a_above a_below a_spans a_found : Nat) (loose : Int32) : va_W := [(a0, .inr (8, [.ref a_reader, .ref a_freer, .ref a_scribe, .ref a_formula, .ref a_copy, .ref a_above, .ref a_below, .ref a_spans, .ref a_found, .int loose]))]
abbrev rm_X6_value_I : Room := { frames := 6, cells := 1, slots := 6, locals := 90 }
def f_X6_value_I_10 (N : Nat) : Option (Unit) := some ()
def f_X6_value_I_32 (N : Nat) : Option (Unit) := some ()
def f_X6_value_I_53 (N : Nat) : Option (Unit) := some ()
def f_X6_value_I (N : Nat) (x1 : Int32) (x2 : Int32) (x3 : Int32) : Option (Unit) := ifb (x1 < 0) (f_X6_value_I_10 N ) (ifb (x1 < 8) (ifb (x2 < (-99)) (f_X6_value_I_32 N ) (ifb (x2 ≤ 99) (ifb (x3 < 1) (f_X6_value_I_53 N ) (ifb (x3 ≤ 9) (none) (f_X6_value_I_53 N ))) (f_X6_value_I_32 N ))) (f_X6_value_I_10 N ))
variable {p : Program} {l : Launch} {e : Env} {s : State} {m : MethodId} {below : List Frame} {meth : Method} {c : Code} {args : Array Value} {x0 : Cond} {D : va_G} {cI cJ cB : ClassId} {sz N : Nat} {ws0 : va_W} {a0 a_reader a_freer a_scribe a_formula a_copy a_above a_below a_spans a_found : Nat} {loose : Int32} {z : Unit}
set_option maxHeartbeats 4000000 in
set_option maxRecDepth 100000 in
theorem w_X6_value_I_10 (CX : Cx p m c cX6_value 4 s args x0 RX6 meth none) (hK : va_K D vwCl (ty0 cI cJ cB) s) (hsz : s.heap.size = sz) (hst : l.stackTraces = false) (htab : ∀ x ∈ c.exceptionTable.toList, False) (hex : exOk (va_A ws0 sz) s) : ∀ (H : Heap) (locs : List Loc) (ls : Array Slot), f_X6_value_I_10 N  = some z → va_P D vwCl (ws_X6_value_I cI cJ cB a0 a_reader a_freer a_scribe a_formula a_copy a_above a_below a_spans a_found loose) H → va_D (va_A ws0 sz) (ws_X6_value_I cI cJ cB a0 a_reader a_freer a_scribe a_formula a_copy a_above a_below a_spans a_found loose) → va_S (va_A ws0 sz) s.heap H locs → lv_has ls 4 [] → W p l e rm_X6_value_I s m args below meth c H locs 0 0 (vx_MQ below (fun _ _ _ _ => False) (tQ D sz ws0 (ws_X6_value_I cI cJ cB a0 a_reader a_freer a_scribe a_formula a_copy a_above a_below a_spans a_found loose) "java/lang/IllegalArgumentException") args s 1 6 (va_A ws0 sz)) (F0 m 10 ls []) := by
  obtain ⟨F, hr, hlk, hNw⟩ := id CX
  have hx := F.1
  have hb := F.2.1
  have hown := F.2.2.2.1
  have hA : ∀ q, s.heap.size ≤ q → va_A ws0 sz q := fun q hq => Or.inr (hsz ▸ hq)
  intro  H locs ls h hP hD hS hl
  unfold f_X6_value_I_10 at h
  obtain rfl := Option.some.inj h
  exact r_throw (text := "no such variable") F hlk hst htab hex (by decide +kernel) wm_991 wm_83 (by decide) ex_in_I exg_64_68 hP hD hS hl.1 dX6_value_10 dX6_value_13 dX6_value_14 dX6_value_16 dX6_value_19 (by decide) (by decide) (by decide) (by decide)
set_option maxHeartbeats 4000000 in
set_option maxRecDepth 100000 in
theorem w_X6_value_I_32 (CX : Cx p m c cX6_value 4 s args x0 RX6 meth none) (hK : va_K D vwCl (ty0 cI cJ cB) s) (hsz : s.heap.size = sz) (hst : l.stackTraces = false) (htab : ∀ x ∈ c.exceptionTable.toList, False) (hex : exOk (va_A ws0 sz) s) : ∀ (H : Heap) (locs : List Loc) (ls : Array Slot), f_X6_value_I_32 N  = some z → va_P D vwCl (ws_X6_value_I cI cJ cB a0 a_reader a_freer a_scribe a_formula a_copy a_above a_below a_spans a_found loose) H → va_D (va_A ws0 sz) (ws_X6_value_I cI cJ cB a0 a_reader a_freer a_scribe a_formula a_copy a_above a_below a_spans a_found loose) → va_S (va_A ws0 sz) s.heap H locs → lv_has ls 4 [] → W p l e rm_X6_value_I s m args below meth c H locs 0 0 (vx_MQ below (fun _ _ _ _ => False) (tQ D sz ws0 (ws_X6_value_I cI cJ cB a0 a_reader a_freer a_scribe a_formula a_copy a_above a_below a_spans a_found loose) "java/lang/IllegalArgumentException") args s 1 6 (va_A ws0 sz)) (F0 m 32 ls []) := by
  obtain ⟨F, hr, hlk, hNw⟩ := id CX
  have hx := F.1
  have hb := F.2.1
  have hown := F.2.2.2.1
  have hA : ∀ q, s.heap.size ≤ q → va_A ws0 sz q := fun q hq => Or.inr (hsz ▸ hq)
  intro  H locs ls h hP hD hS hl
  unfold f_X6_value_I_32 at h
  obtain rfl := Option.some.inj h
  exact r_throw (text := "above is not -99 .. 99") F hlk hst htab hex (by decide +kernel) wm_991 wm_83 (by decide) ex_in_I exg_64_68 hP hD hS hl.1 dX6_value_32 dX6_value_35 dX6_value_36 dX6_value_38 dX6_value_41 (by decide) (by decide) (by decide) (by decide)
set_option maxHeartbeats 4000000 in
set_option maxRecDepth 100000 in
theorem w_X6_value_I_53 (CX : Cx p m c cX6_value 4 s args x0 RX6 meth none) (hK : va_K D vwCl (ty0 cI cJ cB) s) (hsz : s.heap.size = sz) (hst : l.stackTraces = false) (htab : ∀ x ∈ c.exceptionTable.toList, False) (hex : exOk (va_A ws0 sz) s) : ∀ (H : Heap) (locs : List Loc) (ls : Array Slot), f_X6_value_I_53 N  = some z → va_P D vwCl (ws_X6_value_I cI cJ cB a0 a_reader a_freer a_scribe a_formula a_copy a_above a_below a_spans a_found loose) H → va_D (va_A ws0 sz) (ws_X6_value_I cI cJ cB a0 a_reader a_freer a_scribe a_formula a_copy a_above a_below a_spans a_found loose) → va_S (va_A ws0 sz) s.heap H locs → lv_has ls 4 [] → W p l e rm_X6_value_I s m args below meth c H locs 0 0 (vx_MQ below (fun _ _ _ _ => False) (tQ D sz ws0 (ws_X6_value_I cI cJ cB a0 a_reader a_freer a_scribe a_formula a_copy a_above a_below a_spans a_found loose) "java/lang/IllegalArgumentException") args s 1 6 (va_A ws0 sz)) (F0 m 53 ls []) := by
  obtain ⟨F, hr, hlk, hNw⟩ := id CX
  have hx := F.1
  have hb := F.2.1
  have hown := F.2.2.2.1
  have hA : ∀ q, s.heap.size ≤ q → va_A ws0 sz q := fun q hq => Or.inr (hsz ▸ hq)
  intro  H locs ls h hP hD hS hl
  unfold f_X6_value_I_53 at h
  obtain rfl := Option.some.inj h
  exact r_throw (text := "below is not 1 .. 9") F hlk hst htab hex (by decide +kernel) wm_991 wm_83 (by decide) ex_in_I exg_64_68 hP hD hS hl.1 dX6_value_53 dX6_value_56 dX6_value_57 dX6_value_59 dX6_value_62 (by decide) (by decide) (by decide) (by decide)
end G_X6_value_I
set_option maxHeartbeats 4000000 in
set_option maxRecDepth 100000 in
theorem c_X6_value_I (l : Launch) (D : va_G) (cI cJ cB : ClassId) (hst : l.stackTraces = false) (a0 a_reader a_freer a_scribe a_formula a_copy a_above a_below a_spans a_found : Nat) (sz : Nat) (loose : Int32) (x1 : Int32) (x2 : Int32) (x3 : Int32) (N : Nat) {z : Unit} (h : f_X6_value_I N x1 x2 x3 = some z) : Mx l yX6_value cX6_value 4 none rm_X6_value_I D (ty0 cI cJ cB) [.ref a0, .int x1, .int x2, .int x3] sz (ws_X6_value_I cI cJ cB a0 a_reader a_freer a_scribe a_formula a_copy a_above a_below a_spans a_found loose) "java/lang/IllegalArgumentException" (ws_X6_value_I cI cJ cB a0 a_reader a_freer a_scribe a_formula a_copy a_above a_below a_spans a_found loose) := by
  refine Mx.of (by decide) (Nat.le_of_ble_eq_true rfl) ?_
  intro p e s m below meth c CX htab hex hK hsz hP hD ls hl
  have CX : Cx p m c cX6_value 4 s ([.ref a0, .int x1, .int x2, .int x3] : List Value).toArray (Cond.code yX6_value cX6_value 4 none) RX6 meth none := CX
  obtain ⟨F, hr, hlk, hNw⟩ := id CX
  have hx := F.1
  have hb := F.2.1
  have hown := F.2.2.2.1
  have hl : lv_has ls 4 [(0, .ref a0), (1, .int x1), (2, .int x2), (3, .int x3)] := hl
  have hS : va_S (va_A (ws_X6_value_I cI cJ cB a0 a_reader a_freer a_scribe a_formula a_copy a_above a_below a_spans a_found loose) sz) s.heap s.heap [] := va_S.rf
  have hA : ∀ q, s.heap.size ≤ q → va_A (ws_X6_value_I cI cJ cB a0 a_reader a_freer a_scribe a_formula a_copy a_above a_below a_spans a_found loose) sz q := fun q hq => Or.inr (hsz ▸ hq)
  unfold f_X6_value_I at h
  refine lv_iload_n hx hb dX6_value_0 rfl (lv_at hl 1 rfl) ?_
  refine lv_if_lt (tgt := 10) hx hb dX6_value_1 (by decide) (fun c1 => ?_) (fun c1 => ?_)
  · have h := o_t c1 h
    exact w_X6_value_I_10 CX hK hsz hst htab hex  _ _ _ h hP hD hS (lv_sub hl [] rfl)
  · have h := o_f c1 h
    refine lv_iload_n hx hb dX6_value_4 rfl (lv_at hl 1 rfl) ?_
    refine lv_bipush (v := 8) hx hb dX6_value_5 (by decide) ?_
    refine lv_icmp_lt (tgt := 20) hx hb dX6_value_7 (by decide) (fun c7 => ?_) (fun c7 => ?_)
    · have h := o_t c7 h
      refine lv_iload_n hx hb dX6_value_20 rfl (lv_at hl 2 rfl) ?_
      refine lv_bipush (v := (-99)) hx hb dX6_value_21 (by decide) ?_
      refine lv_icmp_lt (tgt := 32) hx hb dX6_value_23 (by decide) (fun c23 => ?_) (fun c23 => ?_)
      · have h := o_t c23 h
        exact w_X6_value_I_32 CX hK hsz hst htab hex  _ _ _ h hP hD hS (lv_sub hl [] rfl)
      · have h := o_f c23 h
        refine lv_iload_n hx hb dX6_value_26 rfl (lv_at hl 2 rfl) ?_
        refine lv_bipush (v := 99) hx hb dX6_value_27 (by decide) ?_
        refine lv_icmp_le (tgt := 42) hx hb dX6_value_29 (by decide) (fun c29 => ?_) (fun c29 => ?_)
        · have h := o_t c29 h
          refine lv_iload_n hx hb dX6_value_42 rfl (lv_at hl 3 rfl) ?_
          refine lv_iconst (v := 1) hx hb dX6_value_43 (by decide) ?_
          refine lv_icmp_lt (tgt := 53) hx hb dX6_value_44 (by decide) (fun c44 => ?_) (fun c44 => ?_)
          · have h := o_t c44 h
            exact w_X6_value_I_53 CX hK hsz hst htab hex  _ _ _ h hP hD hS (lv_sub hl [] rfl)
          · have h := o_f c44 h
            refine lv_iload_n hx hb dX6_value_47 rfl (lv_at hl 3 rfl) ?_
            refine lv_bipush (v := 9) hx hb dX6_value_48 (by decide) ?_
            refine lv_icmp_le (tgt := 63) hx hb dX6_value_50 (by decide) (fun c50 => ?_) (fun c50 => ?_)
            · have h := o_t c50 h
              cases h
            · have h := o_f c50 h
              exact w_X6_value_I_53 CX hK hsz hst htab hex  _ _ _ h hP hD hS (lv_sub hl [] rfl)
        · have h := o_f c29 h
          exact w_X6_value_I_32 CX hK hsz hst htab hex  _ _ _ h hP hD hS (lv_sub hl [] rfl)
    · have h := o_f c7 h
      exact w_X6_value_I_10 CX hK hsz hst htab hex  _ _ _ h hP hD hS (lv_sub hl [] rfl)
section G_X6_holds_S
abbrev ws_X6_holds_S (cI cJ cB : ClassId) (a0 a_reader a_freer a_scribe a_copy a_above a_below a_spans a_found a_formula a_formula_cells : Nat) (loose : Int32) (formula_rows : Int32) (formula_cells : Nat → Int32) (formula_cells_n : Nat) : va_W := [(a0, .inr (8, [.ref a_reader, .ref a_freer, .ref a_scribe, .ref a_formula, .ref a_copy, .ref a_above, .ref a_below, .ref a_spans, .ref a_found, .int loose])), (a_formula, .inr (7, [.ref a_formula_cells, .int formula_rows])), (a_formula_cells, .inl (cI, formula_cells_n, .inl formula_cells))]
abbrev rm_X6_holds_S : Room := { frames := 6, cells := 1, slots := 6, locals := 90 }
def f_X6_holds_S (N : Nat) (formula_rows : Int32) (formula_cells : Nat → Int32) (formula_cells_n : Nat) : Option (Unit) := (f_X5_howMany N formula_rows formula_cells formula_cells_n 8 9).bind (fun z8 => ifb (z8 ≤ 0) (none) (some ()))
variable {p : Program} {l : Launch} {e : Env} {s : State} {m : MethodId} {below : List Frame} {meth : Method} {c : Code} {args : Array Value} {x0 : Cond} {D : va_G} {cI cJ cB : ClassId} {sz N : Nat} {ws0 : va_W} {a0 a_reader a_freer a_scribe a_copy a_above a_below a_spans a_found a_formula a_formula_cells : Nat} {loose : Int32} {formula_rows : Int32} {formula_cells : Nat → Int32} {formula_cells_n : Nat} {z : Unit}
end G_X6_holds_S
set_option maxHeartbeats 4000000 in
set_option maxRecDepth 100000 in
theorem c_X6_holds_S (l : Launch) (D : va_G) (cI cJ cB : ClassId) (hst : l.stackTraces = false) (a0 a_reader a_freer a_scribe a_copy a_above a_below a_spans a_found a_formula a_formula_cells : Nat) (sz : Nat) (loose : Int32) (formula_rows : Int32) (formula_cells : Nat → Int32) (formula_cells_n : Nat) (N : Nat) {z : Unit} (h : f_X6_holds_S N formula_rows formula_cells formula_cells_n = some z) : Mx l yX6_holds cX6_holds 3 (some .int) rm_X6_holds_S D (ty0 cI cJ cB) [.ref a0] sz (ws_X6_holds_S cI cJ cB a0 a_reader a_freer a_scribe a_copy a_above a_below a_spans a_found a_formula a_formula_cells loose formula_rows formula_cells formula_cells_n) "java/lang/IllegalStateException" (ws_X6_holds_S cI cJ cB a0 a_reader a_freer a_scribe a_copy a_above a_below a_spans a_found a_formula a_formula_cells loose formula_rows formula_cells formula_cells_n) := by
  refine Mx.of (by decide) (Nat.le_of_ble_eq_true rfl) ?_
  intro p e s m below meth c CX htab hex hK hsz hP hD ls hl
  have CX : Cx p m c cX6_holds 3 s ([.ref a0] : List Value).toArray (Cond.code yX6_holds cX6_holds 3 (some .int)) RX6 meth (some .int) := CX
  obtain ⟨F, hr, hlk, hNw⟩ := id CX
  have hx := F.1
  have hb := F.2.1
  have hown := F.2.2.2.1
  have hl : lv_has ls 3 [(0, .ref a0)] := hl
  have hS : va_S (va_A (ws_X6_holds_S cI cJ cB a0 a_reader a_freer a_scribe a_copy a_above a_below a_spans a_found a_formula a_formula_cells loose formula_rows formula_cells formula_cells_n) sz) s.heap s.heap [] := va_S.rf
  have hA : ∀ q, s.heap.size ≤ q → va_A (ws_X6_holds_S cI cJ cB a0 a_reader a_freer a_scribe a_copy a_above a_below a_spans a_found a_formula a_formula_cells loose formula_rows formula_cells formula_cells_n) sz q := fun q hq => Or.inr (hsz ▸ hq)
  unfold f_X6_holds_S at h
  refine lv_aload_n hx hb dX6_holds_0 rfl (lv_at hl 0 rfl) ?_
  refine r_get F hK hP 0 3 rfl inW_X6 wm_586 rfl (by decide) rfl dX6_holds_1 ?_
  refine lv_bipush (v := 8) hx hb dX6_holds_4 (by decide) ?_
  refine lv_bipush (v := 9) hx hb dX6_holds_6 (by decide) ?_
  obtain ⟨z8, hz8, h⟩ := o_b h
  refine k_v (wn := (ws_X6_holds_S cI cJ cB a0 a_reader a_freer a_scribe a_copy a_above a_below a_spans a_found a_formula a_formula_cells loose formula_rows formula_cells formula_cells_n)) (As := [.int 8, .int 9]) (rest := []) F hNw hK hP hD hS hA (c_X5_howMany l D cI cJ cB a_formula a_formula_cells _ formula_rows formula_cells formula_cells_n 8 9 N hz8) wm_1028 cv_X5_howMany [1, 2] [0] [0, 1, 2] (⟨rfl, rfl, rfl, by decide, rfl⟩ : Ix [1, 2] [0] [0, 1, 2] 3) rfl rfl rfl rfl rfl rfl ⟨rfl, rfl, by decide, by decide⟩ hl.1 rfl (Nat.le_of_ble_eq_true rfl) ⟨Nat.zero_le _, Nat.zero_le _⟩ dX6_holds_8 (fun H locs hP hD hS => ?_)
  refine lv_if_le (tgt := 24) hx hb dX6_holds_11 (by decide) (fun c11 => ?_) (fun c11 => ?_)
  · have h := o_t c11 h
    cases h
  · have h := o_f c11 h
    obtain rfl := Option.some.inj h
    exact r_throw (text := "the formula has E or A") F hlk hst htab hex (by decide +kernel) wm_1032 wm_95 (by decide) ex_in_S exg_117_121 hP hD hS hl.1 dX6_holds_14 dX6_holds_17 dX6_holds_18 dX6_holds_20 dX6_holds_23 (by decide) (by decide) (by decide) (by decide)
section G_X6_told_I
abbrev ws_X6_told_I (cI cJ cB : ClassId) (a0 a_reader a_freer a_scribe a_formula a_copy a_above a_below a_spans a_found : Nat) (loose : Int32) : va_W := [(a0, .inr (8, [.ref a_reader, .ref a_freer, .ref a_scribe, .ref a_formula, .ref a_copy, .ref a_above, .ref a_below, .ref a_spans, .ref a_found, .int loose]))]
abbrev rm_X6_told_I : Room := { frames := 6, cells := 1, slots := 6, locals := 90 }
def f_X6_told_I (N : Nat) (x1 : Int32) : Option (Unit) := ifb (x1.toInt < 0 ∨ 5 < x1.toInt) (some ()) (ifb (x1 = 0) (none) (ifb (x1 = 1) (none) (ifb (x1 = 2) (none) (ifb (x1 = 3) (none) (ifb (x1 = 4) (none) (ifb (x1 = 5) (none) (none)))))))
variable {p : Program} {l : Launch} {e : Env} {s : State} {m : MethodId} {below : List Frame} {meth : Method} {c : Code} {args : Array Value} {x0 : Cond} {D : va_G} {cI cJ cB : ClassId} {sz N : Nat} {ws0 : va_W} {a0 a_reader a_freer a_scribe a_formula a_copy a_above a_below a_spans a_found : Nat} {loose : Int32} {z : Unit}
end G_X6_told_I
set_option maxHeartbeats 4000000 in
set_option maxRecDepth 100000 in
theorem c_X6_told_I (l : Launch) (D : va_G) (cI cJ cB : ClassId) (hst : l.stackTraces = false) (a0 a_reader a_freer a_scribe a_formula a_copy a_above a_below a_spans a_found : Nat) (sz : Nat) (loose : Int32) (x1 : Int32) (N : Nat) {z : Unit} (h : f_X6_told_I N x1 = some z) : Mx l yX6_told cX6_told 2 (some .int) rm_X6_told_I D (ty0 cI cJ cB) [.ref a0, .int x1] sz (ws_X6_told_I cI cJ cB a0 a_reader a_freer a_scribe a_formula a_copy a_above a_below a_spans a_found loose) "java/lang/IllegalArgumentException" (ws_X6_told_I cI cJ cB a0 a_reader a_freer a_scribe a_formula a_copy a_above a_below a_spans a_found loose) := by
  refine Mx.of (by decide) (Nat.le_of_ble_eq_true rfl) ?_
  intro p e s m below meth c CX htab hex hK hsz hP hD ls hl
  have CX : Cx p m c cX6_told 2 s ([.ref a0, .int x1] : List Value).toArray (Cond.code yX6_told cX6_told 2 (some .int)) RX6 meth (some .int) := CX
  obtain ⟨F, hr, hlk, hNw⟩ := id CX
  have hx := F.1
  have hb := F.2.1
  have hown := F.2.2.2.1
  have hl : lv_has ls 2 [(0, .ref a0), (1, .int x1)] := hl
  have hS : va_S (va_A (ws_X6_told_I cI cJ cB a0 a_reader a_freer a_scribe a_formula a_copy a_above a_below a_spans a_found loose) sz) s.heap s.heap [] := va_S.rf
  have hA : ∀ q, s.heap.size ≤ q → va_A (ws_X6_told_I cI cJ cB a0 a_reader a_freer a_scribe a_formula a_copy a_above a_below a_spans a_found loose) sz q := fun q hq => Or.inr (hsz ▸ hq)
  unfold f_X6_told_I at h
  refine lv_iload_n hx hb dX6_told_0 rfl (lv_at hl 1 rfl) ?_
  by_cases o1 : x1.toInt < 0 ∨ 5 < x1.toInt
  · have h := o_t o1 h
    refine lv_tableOut (tgt := 91) hx hb dX6_told_1 o1 (by decide) ?_
    obtain rfl := Option.some.inj h
    exact r_throw (text := "what is not 0 .. 5") F hlk hst htab hex (by decide +kernel) wm_991 wm_83 (by decide) ex_in_I exg_64_68 hP hD hS hl.1 dX6_told_91 dX6_told_94 dX6_told_95 dX6_told_97 dX6_told_100 (by decide) (by decide) (by decide) (by decide)
  · have h := o_f o1 h
    by_cases e1_0 : x1 = 0
    · have h := o_t e1_0 h
      refine lv_tableIn (off := 39) (tgt := 40) hx hb dX6_told_1 (by rw [e1_0]; decide) (by rw [e1_0]; decide) (by rw [e1_0]; rfl) (by decide) ?_
      cases h
    · have h := o_f e1_0 h
      by_cases e1_1 : x1 = 1
      · have h := o_t e1_1 h
        refine lv_tableIn (off := 47) (tgt := 48) hx hb dX6_told_1 (by rw [e1_1]; decide) (by rw [e1_1]; decide) (by rw [e1_1]; rfl) (by decide) ?_
        cases h
      · have h := o_f e1_1 h
        by_cases e1_2 : x1 = 2
        · have h := o_t e1_2 h
          refine lv_tableIn (off := 57) (tgt := 58) hx hb dX6_told_1 (by rw [e1_2]; decide) (by rw [e1_2]; decide) (by rw [e1_2]; rfl) (by decide) ?_
          cases h
        · have h := o_f e1_2 h
          by_cases e1_3 : x1 = 3
          · have h := o_t e1_3 h
            refine lv_tableIn (off := 69) (tgt := 70) hx hb dX6_told_1 (by rw [e1_3]; decide) (by rw [e1_3]; decide) (by rw [e1_3]; rfl) (by decide) ?_
            cases h
          · have h := o_f e1_3 h
            by_cases e1_4 : x1 = 4
            · have h := o_t e1_4 h
              refine lv_tableIn (off := 74) (tgt := 75) hx hb dX6_told_1 (by rw [e1_4]; decide) (by rw [e1_4]; decide) (by rw [e1_4]; rfl) (by decide) ?_
              cases h
            · have h := o_f e1_4 h
              by_cases e1_5 : x1 = 5
              · have h := o_t e1_5 h
                refine lv_tableIn (off := 82) (tgt := 83) hx hb dX6_told_1 (by rw [e1_5]; decide) (by rw [e1_5]; decide) (by rw [e1_5]; rfl) (by decide) ?_
                cases h
              · have h := o_f e1_5 h
                cases h
