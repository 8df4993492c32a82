section G_X7_peek
abbrev ws_X7_peek (cI cJ cB : ClassId) (a0 a_kind a_left a_right a_many a_bits a_rows a_table a_roots a_moved a_out a_above a_below a_row a_sum a_point a_pointRows a_pointSorts a_text : Nat) (thrown : Int32) (used : Int32) (rooted : Int32) (size : Int32) (outSize : Int32) (points : Int32) (takenOut : Int32) (great : Int32) (at_ : Int32) (fault : Int32) (open_ : Int32) (wrong : Int32) (by_ : Int64) (sort : Int32) (variable_ : Int32) (pointCount : Int32) (text : Nat → Int32) : va_W := [(a0, .inr (9, [.int thrown, .ref a_kind, .ref a_left, .ref a_right, .ref a_many, .ref a_bits, .ref a_rows, .ref a_table, .int used, .ref a_roots, .int rooted, .ref a_moved, .ref a_text, .int size, .ref a_out, .int outSize, .ref a_above, .ref a_below, .int points, .int takenOut, .int great, .ref a_row, .int at_, .int fault, .int open_, .int wrong, .ref a_sum, .ref a_point, .long by_, .int sort, .int variable_, .ref a_pointRows, .ref a_pointSorts, .int pointCount])), (a_text, .inl (cB, 240, .inl text))]
abbrev rm_X7_peek : Room := { frames := 0, cells := 0, slots := 0, locals := 0 }
def f_X7_peek_28 (N : Nat) (size : Int32) (at_ : Int32) (text : Nat → Int32) (s0 : Int32) : Option (Int32) := some s0
def f_X7_peek (N : Nat) (size : Int32) (at_ : Int32) (text : Nat → Int32) : Option (Int32) := ifb (size ≤ at_) (f_X7_peek_28 N size at_ text (-1)) (ix at_ 240 (f_X7_peek_28 N size at_ text ((text at_.toNatClampNeg) &&& 255)))
variable {p : Program} {l : Launch} {e : Env} {s : State} {m : MethodId} {below : List Frame} {meth : Method} {c : Code} {args : Array Value} {x0 : Cond} {D : va_G} {cI cJ cB : ClassId} {sz N : Nat} {ws0 : va_W} {a0 a_kind a_left a_right a_many a_bits a_rows a_table a_roots a_moved a_out a_above a_below a_row a_sum a_point a_pointRows a_pointSorts a_text : Nat} {thrown : Int32} {used : Int32} {rooted : Int32} {size : Int32} {outSize : Int32} {points : Int32} {takenOut : Int32} {great : Int32} {at_ : Int32} {fault : Int32} {open_ : Int32} {wrong : Int32} {by_ : Int64} {sort : Int32} {variable_ : Int32} {pointCount : Int32} {text : Nat → Int32} {z : Int32}
set_option maxHeartbeats 4000000 in
set_option maxRecDepth 100000 in
theorem w_X7_peek_28 (CX : Cx p m c cX7_peek 1 s args x0 RX7 meth (some .int)) (hK : va_K D vwCl (ty0 cI cJ cB) s) (hsz : s.heap.size = sz) : ∀ (s0 : Int32) (H : Heap) (locs : List Loc) (ls : Array Slot), f_X7_peek_28 N size at_ text s0 = some z → va_P D vwCl (ws_X7_peek cI cJ cB a0 a_kind a_left a_right a_many a_bits a_rows a_table a_roots a_moved a_out a_above a_below a_row a_sum a_point a_pointRows a_pointSorts a_text thrown used rooted size outSize points takenOut great at_ fault open_ wrong by_ sort variable_ pointCount text) H → va_D (va_A ws0 sz) (ws_X7_peek cI cJ cB a0 a_kind a_left a_right a_many a_bits a_rows a_table a_roots a_moved a_out a_above a_below a_row a_sum a_point a_pointRows a_pointSorts a_text thrown used rooted size outSize points takenOut great at_ fault open_ wrong by_ sort variable_ pointCount text) → va_S (va_A ws0 sz) s.heap H locs → lv_has ls 1 [] → W p l e rm_X7_peek s m args below meth c H locs 0 0 (MQ below (gQ D sz ws0 (ws_X7_peek cI cJ cB a0 a_kind a_left a_right a_many a_bits a_rows a_table a_roots a_moved a_out a_above a_below a_row a_sum a_point a_pointRows a_pointSorts a_text thrown used rooted size outSize points takenOut great at_ fault open_ wrong by_ sort variable_ pointCount text) (some (.int z))) args s 0 0 (va_A ws0 sz)) (F0 m 28 ls [.int s0]) := by
  obtain ⟨F, hr, hlk, hNw⟩ := id CX
  have hx := F.1
  have hb := F.2.1
  have hown := F.2.2.2.1
  have hA : ∀ q, s.heap.size ≤ q → va_A ws0 sz q := fun q hq => Or.inr (hsz ▸ hq)
  intro s0 H locs ls h hP hD hS hl
  unfold f_X7_peek_28 at h
  obtain rfl := Option.some.inj h
  exact r_ret (v := s0) F hr hlk rfl dX7_peek_28 hsz hP hD hS
end G_X7_peek
set_option maxHeartbeats 4000000 in
set_option maxRecDepth 100000 in
theorem c_X7_peek (l : Launch) (D : va_G) (cI cJ cB : ClassId) (a0 a_kind a_left a_right a_many a_bits a_rows a_table a_roots a_moved a_out a_above a_below a_row a_sum a_point a_pointRows a_pointSorts a_text : Nat) (sz : Nat) (thrown : Int32) (used : Int32) (rooted : Int32) (size : Int32) (outSize : Int32) (points : Int32) (takenOut : Int32) (great : Int32) (at_ : Int32) (fault : Int32) (open_ : Int32) (wrong : Int32) (by_ : Int64) (sort : Int32) (variable_ : Int32) (pointCount : Int32) (text : Nat → Int32) (N : Nat) {z : Int32} (h : f_X7_peek N size at_ text = some z) : Mg l yX7_peek cX7_peek 1 (some .int) rm_X7_peek D (ty0 cI cJ cB) [.ref a0] sz (ws_X7_peek cI cJ cB a0 a_kind a_left a_right a_many a_bits a_rows a_table a_roots a_moved a_out a_above a_below a_row a_sum a_point a_pointRows a_pointSorts a_text thrown used rooted size outSize points takenOut great at_ fault open_ wrong by_ sort variable_ pointCount text) (some (.int z)) (ws_X7_peek cI cJ cB a0 a_kind a_left a_right a_many a_bits a_rows a_table a_roots a_moved a_out a_above a_below a_row a_sum a_point a_pointRows a_pointSorts a_text thrown used rooted size outSize points takenOut great at_ fault open_ wrong by_ sort variable_ pointCount text) := by
  refine Mg.of (by decide) (Nat.le_of_ble_eq_true rfl) ?_
  intro p e s m below meth c CX hK hsz hP hD ls hl
  have CX : Cx p m c cX7_peek 1 s ([.ref a0] : List Value).toArray (Cond.code yX7_peek cX7_peek 1 (some .int)) RX7 meth (some .int) := CX
  obtain ⟨F, hr, hlk, hNw⟩ := id CX
  have hx := F.1
  have hb := F.2.1
  have hown := F.2.2.2.1
  have hl : lv_has ls 1 [(0, .ref a0)] := hl
  have hS : va_S (va_A (ws_X7_peek cI cJ cB a0 a_kind a_left a_right a_many a_bits a_rows a_table a_roots a_moved a_out a_above a_below a_row a_sum a_point a_pointRows a_pointSorts a_text thrown used rooted size outSize points takenOut great at_ fault open_ wrong by_ sort variable_ pointCount text) sz) s.heap s.heap [] := va_S.rf
  have hA : ∀ q, s.heap.size ≤ q → va_A (ws_X7_peek cI cJ cB a0 a_kind a_left a_right a_many a_bits a_rows a_table a_roots a_moved a_out a_above a_below a_row a_sum a_point a_pointRows a_pointSorts a_text thrown used rooted size outSize points takenOut great at_ fault open_ wrong by_ sort variable_ pointCount text) sz q := fun q hq => Or.inr (hsz ▸ hq)
  unfold f_X7_peek at h
  refine lv_aload_n hx hb dX7_peek_0 rfl (lv_at hl 0 rfl) ?_
  refine r_get F hK hP 0 22 rfl inW_X7 wm_1114 rfl (by decide) rfl dX7_peek_1 ?_
  refine lv_aload_n hx hb dX7_peek_4 rfl (lv_at hl 0 rfl) ?_
  refine r_get F hK hP 0 13 rfl inW_X7 wm_1105 rfl (by decide) rfl dX7_peek_5 ?_
  refine lv_icmp_ge (tgt := 27) hx hb dX7_peek_8 (by decide) (fun c8 => ?_) (fun c8 => ?_)
  · have h := o_t c8 h
    refine lv_iconst (v := (-1)) hx hb dX7_peek_27 (by decide) ?_
    exact w_X7_peek_28 CX hK hsz (-1) _ _ _ h hP hD hS (lv_sub hl [] rfl)
  · have h := o_f c8 h
    refine lv_aload_n hx hb dX7_peek_11 rfl (lv_at hl 0 rfl) ?_
    refine r_get F hK hP 0 12 rfl inW_X7 wm_1104 rfl (by decide) rfl dX7_peek_12 ?_
    refine lv_aload_n hx hb dX7_peek_15 rfl (lv_at hl 0 rfl) ?_
    refine r_get F hK hP 0 22 rfl inW_X7 wm_1114 rfl (by decide) rfl dX7_peek_16 ?_
    obtain ⟨hi19, h⟩ := o_ix h
    refine va_bald hx hb hK hP 1 2 rfl rfl hi19 dX7_peek_19 ?_
    refine lv_sipush (v := 255) hx hb dX7_peek_20 (by decide) ?_
    refine lv_iand hx hb dX7_peek_23 ?_
    refine lv_goto (tgt := 28) hx hb dX7_peek_24 (by decide) ?_
    exact w_X7_peek_28 CX hK hsz ((text at_.toNatClampNeg) &&& 255) _ _ _ h hP hD hS (lv_sub hl [] rfl)
section G_X7_blanks
abbrev ws_X7_blanks (cI cJ cB : ClassId) (a0 a_kind a_left a_right a_many a_bits a_rows a_table a_roots a_moved a_out a_above a_below a_row a_sum a_point a_pointRows a_pointSorts a_text : Nat) (thrown : Int32) (used : Int32) (rooted : Int32) (size : Int32) (outSize : Int32) (points : Int32) (takenOut : Int32) (great : Int32) (at_ : Int32) (fault : Int32) (open_ : Int32) (wrong : Int32) (by_ : Int64) (sort : Int32) (variable_ : Int32) (pointCount : Int32) (text : Nat → Int32) : va_W := [(a0, .inr (9, [.int thrown, .ref a_kind, .ref a_left, .ref a_right, .ref a_many, .ref a_bits, .ref a_rows, .ref a_table, .int used, .ref a_roots, .int rooted, .ref a_moved, .ref a_text, .int size, .ref a_out, .int outSize, .ref a_above, .ref a_below, .int points, .int takenOut, .int great, .ref a_row, .int at_, .int fault, .int open_, .int wrong, .ref a_sum, .ref a_point, .long by_, .int sort, .int variable_, .ref a_pointRows, .ref a_pointSorts, .int pointCount])), (a_text, .inl (cB, 240, .inl text))]
abbrev rm_X7_blanks : Room := { frames := 1, cells := 0, slots := 0, locals := 20 }
def f_X7_blanks_0 (N : Nat) : Nat → Int32 → Int32 → (Nat → Int32) → Option ((Int32))
  | 0 => fun _ _ _ => none
  | n + 1 => fun size at_ text => (f_X7_peek N size at_ text).bind (fun z1 => ifb (z1 = 32) (f_X7_blanks_0 N n size (at_ + 1) text) (some at_))
def f_X7_blanks (N : Nat) (size : Int32) (at_ : Int32) (text : Nat → Int32) : Option ((Int32)) := (f_X7_peek N size at_ text).bind (fun z1 => ifb (z1 = 32) (f_X7_blanks_0 N N size (at_ + 1) text) (some at_))
variable {p : Program} {l : Launch} {e : Env} {s : State} {m : MethodId} {below : List Frame} {meth : Method} {c : Code} {args : Array Value} {x0 : Cond} {D : va_G} {cI cJ cB : ClassId} {sz N : Nat} {ws0 : va_W} {a0 a_kind a_left a_right a_many a_bits a_rows a_table a_roots a_moved a_out a_above a_below a_row a_sum a_point a_pointRows a_pointSorts a_text : Nat} {thrown : Int32} {used : Int32} {rooted : Int32} {size : Int32} {outSize : Int32} {points : Int32} {takenOut : Int32} {great : Int32} {fault : Int32} {open_ : Int32} {wrong : Int32} {by_ : Int64} {sort : Int32} {variable_ : Int32} {pointCount : Int32} {text : Nat → Int32} {z : (Int32)}
set_option maxHeartbeats 4000000 in
set_option maxRecDepth 100000 in
theorem w_X7_blanks_0 (CX : Cx p m c cX7_blanks 1 s args x0 RX7 meth none) (hK : va_K D vwCl (ty0 cI cJ cB) s) (hsz : s.heap.size = sz) : ∀ (n : Nat), ∀ (at_ : Int32) (H : Heap) (locs : List Loc) (ls : Array Slot), f_X7_blanks_0 N n size at_ text = some z → va_P D vwCl (ws_X7_blanks cI cJ cB a0 a_kind a_left a_right a_many a_bits a_rows a_table a_roots a_moved a_out a_above a_below a_row a_sum a_point a_pointRows a_pointSorts a_text thrown used rooted size outSize points takenOut great at_ fault open_ wrong by_ sort variable_ pointCount text) H → va_D (va_A ws0 sz) (ws_X7_blanks cI cJ cB a0 a_kind a_left a_right a_many a_bits a_rows a_table a_roots a_moved a_out a_above a_below a_row a_sum a_point a_pointRows a_pointSorts a_text thrown used rooted size outSize points takenOut great at_ fault open_ wrong by_ sort variable_ pointCount text) → va_S (va_A ws0 sz) s.heap H locs → lv_has ls 1 [(0, .ref a0)] → W p l e rm_X7_blanks s m args below meth c H locs 0 0 (MQ below (gQ D sz ws0 (ws_X7_blanks cI cJ cB a0 a_kind a_left a_right a_many a_bits a_rows a_table a_roots a_moved a_out a_above a_below a_row a_sum a_point a_pointRows a_pointSorts a_text thrown used rooted size outSize points takenOut great z fault open_ wrong by_ sort variable_ pointCount text) none) args s 0 0 (va_A ws0 sz)) (F0 m 0 ls []) := by
  obtain ⟨F, hr, hlk, hNw⟩ := id CX
  have hx := F.1
  have hb := F.2.1
  have hown := F.2.2.2.1
  have hA : ∀ q, s.heap.size ≤ q → va_A ws0 sz q := fun q hq => Or.inr (hsz ▸ hq)
  intro n
  induction n with
  | zero =>
    intro at_ H locs ls h
    cases h
  | succ n ih =>
    intro at_ H locs ls h hP hD hS hl
    unfold f_X7_blanks_0 at h
    refine lv_aload_n hx hb dX7_blanks_0 rfl (lv_at hl 0 rfl) ?_
    obtain ⟨z1, hz1, h⟩ := o_b h
    refine k_v (wn := (ws_X7_blanks cI cJ cB a0 a_kind a_left a_right a_many a_bits a_rows a_table a_roots a_moved a_out a_above a_below a_row a_sum a_point a_pointRows a_pointSorts a_text thrown used rooted size outSize points takenOut great at_ fault open_ wrong by_ sort variable_ pointCount text)) (As := []) (rest := []) F hNw hK hP hD hS hA (c_X7_peek l D cI cJ cB a0 a_kind a_left a_right a_many a_bits a_rows a_table a_roots a_moved a_out a_above a_below a_row a_sum a_point a_pointRows a_pointSorts a_text _ thrown used rooted size outSize points takenOut great at_ fault open_ wrong by_ sort variable_ pointCount text N hz1) wm_1223 cv_X7_peek [0, 1] [] [0, 1] (⟨rfl, rfl, rfl, by decide, rfl⟩ : Ix [0, 1] [] [0, 1] 2) rfl (hN_of 0 2 (by decide +kernel) rfl (by decide +kernel) rfl) rfl rfl rfl rfl ⟨rfl, rfl, by decide, by decide⟩ hl.1 rfl (Nat.le_of_ble_eq_true rfl) ⟨Nat.zero_le _, Nat.zero_le _⟩ dX7_blanks_1 (fun H locs hP hD hS => ?_)
    refine lv_bipush (v := 32) hx hb dX7_blanks_4 (by decide) ?_
    refine lv_icmp_ne (tgt := 22) hx hb dX7_blanks_6 (by decide) (fun c6 => ?_) (fun c6 => ?_)
    · have h := o_f c6 h
      obtain rfl := Option.some.inj h
      exact r_vret F hr hlk dX7_blanks_22 hsz hP hD hS
    · have h := o_t c6 h
      refine lv_aload_n hx hb dX7_blanks_9 rfl (lv_at hl 0 rfl) ?_
      refine lv_dup hx hb dX7_blanks_10 rfl ?_
      refine r_get F hK hP 0 22 rfl inW_X7 wm_1114 rfl (by decide) rfl dX7_blanks_11 ?_
      refine lv_iconst (v := 1) hx hb dX7_blanks_14 (by decide) ?_
      refine lv_iadd hx hb dX7_blanks_15 ?_
      refine r_put (wn := (ws_X7_blanks cI cJ cB a0 a_kind a_left a_right a_many a_bits a_rows a_table a_roots a_moved a_out a_above a_below a_row a_sum a_point a_pointRows a_pointSorts a_text thrown used rooted size outSize points takenOut great (at_ + 1) fault open_ wrong by_ sort variable_ pointCount text)) F hK hP hD hS 0 22 rfl inW_X7 wm_1114 tyX7_ok nmX7 rfl rfl (by decide) rfl rfl (Nat.le_of_ble_eq_true rfl) rfl dX7_blanks_16 (fun H locs hP hD hS => ?_)
      refine lv_goto (tgt := 0) hx hb dX7_blanks_19 (by decide) ?_
      exact ih (at_ + 1) _ _ _ h hP hD hS (lv_sub hl [0] rfl)
end G_X7_blanks
set_option maxHeartbeats 4000000 in
set_option maxRecDepth 100000 in
theorem c_X7_blanks (l : Launch) (D : va_G) (cI cJ cB : ClassId) (a0 a_kind a_left a_right a_many a_bits a_rows a_table a_roots a_moved a_out a_above a_below a_row a_sum a_point a_pointRows a_pointSorts a_text : Nat) (sz : Nat) (thrown : Int32) (used : Int32) (rooted : Int32) (size : Int32) (outSize : Int32) (points : Int32) (takenOut : Int32) (great : Int32) (at_ : Int32) (fault : Int32) (open_ : Int32) (wrong : Int32) (by_ : Int64) (sort : Int32) (variable_ : Int32) (pointCount : Int32) (text : Nat → Int32) (N : Nat) {z : (Int32)} (h : f_X7_blanks N size at_ text = some z) : Mg l yX7_blanks cX7_blanks 1 none rm_X7_blanks D (ty0 cI cJ cB) [.ref a0] sz (ws_X7_blanks cI cJ cB a0 a_kind a_left a_right a_many a_bits a_rows a_table a_roots a_moved a_out a_above a_below a_row a_sum a_point a_pointRows a_pointSorts a_text thrown used rooted size outSize points takenOut great at_ fault open_ wrong by_ sort variable_ pointCount text) none (ws_X7_blanks cI cJ cB a0 a_kind a_left a_right a_many a_bits a_rows a_table a_roots a_moved a_out a_above a_below a_row a_sum a_point a_pointRows a_pointSorts a_text thrown used rooted size outSize points takenOut great z fault open_ wrong by_ sort variable_ pointCount text) := by
  refine Mg.of (by decide) (Nat.le_of_ble_eq_true rfl) ?_
  intro p e s m below meth c CX hK hsz hP hD ls hl
  have CX : Cx p m c cX7_blanks 1 s ([.ref a0] : List Value).toArray (Cond.code yX7_blanks cX7_blanks 1 none) RX7 meth none := CX
  obtain ⟨F, hr, hlk, hNw⟩ := id CX
  have hx := F.1
  have hb := F.2.1
  have hown := F.2.2.2.1
  have hl : lv_has ls 1 [(0, .ref a0)] := hl
  have hS : va_S (va_A (ws_X7_blanks cI cJ cB a0 a_kind a_left a_right a_many a_bits a_rows a_table a_roots a_moved a_out a_above a_below a_row a_sum a_point a_pointRows a_pointSorts a_text thrown used rooted size outSize points takenOut great at_ fault open_ wrong by_ sort variable_ pointCount text) sz) s.heap s.heap [] := va_S.rf
  have hA : ∀ q, s.heap.size ≤ q → va_A (ws_X7_blanks cI cJ cB a0 a_kind a_left a_right a_many a_bits a_rows a_table a_roots a_moved a_out a_above a_below a_row a_sum a_point a_pointRows a_pointSorts a_text thrown used rooted size outSize points takenOut great at_ fault open_ wrong by_ sort variable_ pointCount text) sz q := fun q hq => Or.inr (hsz ▸ hq)
  unfold f_X7_blanks at h
  refine lv_aload_n hx hb dX7_blanks_0 rfl (lv_at hl 0 rfl) ?_
  obtain ⟨z1, hz1, h⟩ := o_b h
  refine k_v (wn := (ws_X7_blanks cI cJ cB a0 a_kind a_left a_right a_many a_bits a_rows a_table a_roots a_moved a_out a_above a_below a_row a_sum a_point a_pointRows a_pointSorts a_text thrown used rooted size outSize points takenOut great at_ fault open_ wrong by_ sort variable_ pointCount text)) (As := []) (rest := []) F hNw hK hP hD hS hA (c_X7_peek l D cI cJ cB a0 a_kind a_left a_right a_many a_bits a_rows a_table a_roots a_moved a_out a_above a_below a_row a_sum a_point a_pointRows a_pointSorts a_text _ thrown used rooted size outSize points takenOut great at_ fault open_ wrong by_ sort variable_ pointCount text N hz1) wm_1223 cv_X7_peek [0, 1] [] [0, 1] (⟨rfl, rfl, rfl, by decide, rfl⟩ : Ix [0, 1] [] [0, 1] 2) rfl (hN_of 0 2 (by decide +kernel) rfl (by decide +kernel) rfl) rfl rfl rfl rfl ⟨rfl, rfl, by decide, by decide⟩ hl.1 rfl (Nat.le_of_ble_eq_true rfl) ⟨Nat.zero_le _, Nat.zero_le _⟩ dX7_blanks_1 (fun H locs hP hD hS => ?_)
  refine lv_bipush (v := 32) hx hb dX7_blanks_4 (by decide) ?_
  refine lv_icmp_ne (tgt := 22) hx hb dX7_blanks_6 (by decide) (fun c6 => ?_) (fun c6 => ?_)
  · have h := o_f c6 h
    obtain rfl := Option.some.inj h
    exact r_vret F hr hlk dX7_blanks_22 hsz hP hD hS
  · have h := o_t c6 h
    refine lv_aload_n hx hb dX7_blanks_9 rfl (lv_at hl 0 rfl) ?_
    refine lv_dup hx hb dX7_blanks_10 rfl ?_
    refine r_get F hK hP 0 22 rfl inW_X7 wm_1114 rfl (by decide) rfl dX7_blanks_11 ?_
    refine lv_iconst (v := 1) hx hb dX7_blanks_14 (by decide) ?_
    refine lv_iadd hx hb dX7_blanks_15 ?_
    refine r_put (wn := (ws_X7_blanks cI cJ cB a0 a_kind a_left a_right a_many a_bits a_rows a_table a_roots a_moved a_out a_above a_below a_row a_sum a_point a_pointRows a_pointSorts a_text thrown used rooted size outSize points takenOut great (at_ + 1) fault open_ wrong by_ sort variable_ pointCount text)) F hK hP hD hS 0 22 rfl inW_X7 wm_1114 tyX7_ok nmX7 rfl rfl (by decide) rfl rfl (Nat.le_of_ble_eq_true rfl) rfl dX7_blanks_16 (fun H locs hP hD hS => ?_)
    refine lv_goto (tgt := 0) hx hb dX7_blanks_19 (by decide) ?_
    exact w_X7_blanks_0 CX hK hsz N (at_ + 1) _ _ _ h hP hD hS (lv_sub hl [0] rfl)
section G_X7_fail
abbrev ws_X7_fail (cI cJ cB : ClassId) (a0 a_kind a_left a_right a_many a_bits a_rows a_table a_roots a_moved a_text a_out a_above a_below a_row a_sum a_point a_pointRows a_pointSorts : Nat) (thrown : Int32) (used : Int32) (rooted : Int32) (size : Int32) (outSize : Int32) (points : Int32) (takenOut : Int32) (great : Int32) (at_ : Int32) (fault : Int32) (open_ : Int32) (wrong : Int32) (by_ : Int64) (sort : Int32) (variable_ : Int32) (pointCount : Int32) : va_W := [(a0, .inr (9, [.int thrown, .ref a_kind, .ref a_left, .ref a_right, .ref a_many, .ref a_bits, .ref a_rows, .ref a_table, .int used, .ref a_roots, .int rooted, .ref a_moved, .ref a_text, .int size, .ref a_out, .int outSize, .ref a_above, .ref a_below, .int points, .int takenOut, .int great, .ref a_row, .int at_, .int fault, .int open_, .int wrong, .ref a_sum, .ref a_point, .long by_, .int sort, .int variable_, .ref a_pointRows, .ref a_pointSorts, .int pointCount]))]
abbrev rm_X7_fail : Room := { frames := 0, cells := 0, slots := 0, locals := 0 }
def f_X7_fail_15 (N : Nat) (at_ : Int32) (fault : Int32) (wrong : Int32) : Option (Int32 × (Int32) × (Int32)) := some (0, fault, 1)
def f_X7_fail (N : Nat) (at_ : Int32) (fault : Int32) (wrong : Int32) : Option (Int32 × (Int32) × (Int32)) := ifb (wrong = 0) (f_X7_fail_15 N at_ at_ wrong) (f_X7_fail_15 N at_ fault wrong)
variable {p : Program} {l : Launch} {e : Env} {s : State} {m : MethodId} {below : List Frame} {meth : Method} {c : Code} {args : Array Value} {x0 : Cond} {D : va_G} {cI cJ cB : ClassId} {sz N : Nat} {ws0 : va_W} {a0 a_kind a_left a_right a_many a_bits a_rows a_table a_roots a_moved a_text a_out a_above a_below a_row a_sum a_point a_pointRows a_pointSorts : Nat} {thrown : Int32} {used : Int32} {rooted : Int32} {size : Int32} {outSize : Int32} {points : Int32} {takenOut : Int32} {great : Int32} {at_ : Int32} {open_ : Int32} {by_ : Int64} {sort : Int32} {variable_ : Int32} {pointCount : Int32} {z : Int32 × (Int32) × (Int32)}
set_option maxHeartbeats 4000000 in
set_option maxRecDepth 100000 in
theorem w_X7_fail_15 (CX : Cx p m c cX7_fail 1 s args x0 RX7 meth (some .int)) (hK : va_K D vwCl (ty0 cI cJ cB) s) (hsz : s.heap.size = sz) : ∀ (fault : Int32) (wrong : Int32) (H : Heap) (locs : List Loc) (ls : Array Slot), f_X7_fail_15 N at_ fault wrong = some z → va_P D vwCl (ws_X7_fail cI cJ cB a0 a_kind a_left a_right a_many a_bits a_rows a_table a_roots a_moved a_text a_out a_above a_below a_row a_sum a_point a_pointRows a_pointSorts thrown used rooted size outSize points takenOut great at_ fault open_ wrong by_ sort variable_ pointCount) H → va_D (va_A ws0 sz) (ws_X7_fail cI cJ cB a0 a_kind a_left a_right a_many a_bits a_rows a_table a_roots a_moved a_text a_out a_above a_below a_row a_sum a_point a_pointRows a_pointSorts thrown used rooted size outSize points takenOut great at_ fault open_ wrong by_ sort variable_ pointCount) → va_S (va_A ws0 sz) s.heap H locs → lv_has ls 1 [(0, .ref a0)] → W p l e rm_X7_fail s m args below meth c H locs 0 0 (MQ below (gQ D sz ws0 (ws_X7_fail cI cJ cB a0 a_kind a_left a_right a_many a_bits a_rows a_table a_roots a_moved a_text a_out a_above a_below a_row a_sum a_point a_pointRows a_pointSorts thrown used rooted size outSize points takenOut great at_ z.2.1 open_ z.2.2 by_ sort variable_ pointCount) (some (.int z.1))) args s 0 0 (va_A ws0 sz)) (F0 m 15 ls []) := by
  obtain ⟨F, hr, hlk, hNw⟩ := id CX
  have hx := F.1
  have hb := F.2.1
  have hown := F.2.2.2.1
  have hA : ∀ q, s.heap.size ≤ q → va_A ws0 sz q := fun q hq => Or.inr (hsz ▸ hq)
  intro fault wrong H locs ls h hP hD hS hl
  unfold f_X7_fail_15 at h
  refine lv_aload_n hx hb dX7_fail_15 rfl (lv_at hl 0 rfl) ?_
  refine lv_iconst (v := 1) hx hb dX7_fail_16 (by decide) ?_
  refine r_put (wn := (ws_X7_fail cI cJ cB a0 a_kind a_left a_right a_many a_bits a_rows a_table a_roots a_moved a_text a_out a_above a_below a_row a_sum a_point a_pointRows a_pointSorts thrown used rooted size outSize points takenOut great at_ fault open_ 1 by_ sort variable_ pointCount)) F hK hP hD hS 0 25 rfl inW_X7 wm_1117 tyX7_ok nmX7 rfl rfl (by decide) rfl rfl (Nat.le_of_ble_eq_true rfl) rfl dX7_fail_17 (fun H locs hP hD hS => ?_)
  refine lv_iconst (v := 0) hx hb dX7_fail_20 (by decide) ?_
  obtain rfl := Option.some.inj h
  exact r_ret (v := 0) F hr hlk rfl dX7_fail_21 hsz hP hD hS
end G_X7_fail
set_option maxHeartbeats 4000000 in
set_option maxRecDepth 100000 in
theorem c_X7_fail (l : Launch) (D : va_G) (cI cJ cB : ClassId) (a0 a_kind a_left a_right a_many a_bits a_rows a_table a_roots a_moved a_text a_out a_above a_below a_row a_sum a_point a_pointRows a_pointSorts : Nat) (sz : Nat) (thrown : Int32) (used : Int32) (rooted : Int32) (size : Int32) (outSize : Int32) (points : Int32) (takenOut : Int32) (great : Int32) (at_ : Int32) (fault : Int32) (open_ : Int32) (wrong : Int32) (by_ : Int64) (sort : Int32) (variable_ : Int32) (pointCount : Int32) (N : Nat) {z : Int32 × (Int32) × (Int32)} (h : f_X7_fail N at_ fault wrong = some z) : Mg l yX7_fail cX7_fail 1 (some .int) rm_X7_fail D (ty0 cI cJ cB) [.ref a0] sz (ws_X7_fail cI cJ cB a0 a_kind a_left a_right a_many a_bits a_rows a_table a_roots a_moved a_text a_out a_above a_below a_row a_sum a_point a_pointRows a_pointSorts thrown used rooted size outSize points takenOut great at_ fault open_ wrong by_ sort variable_ pointCount) (some (.int z.1)) (ws_X7_fail cI cJ cB a0 a_kind a_left a_right a_many a_bits a_rows a_table a_roots a_moved a_text a_out a_above a_below a_row a_sum a_point a_pointRows a_pointSorts thrown used rooted size outSize points takenOut great at_ z.2.1 open_ z.2.2 by_ sort variable_ pointCount) := by
  refine Mg.of (by decide) (Nat.le_of_ble_eq_true rfl) ?_
  intro p e s m below meth c CX hK hsz hP hD ls hl
  have CX : Cx p m c cX7_fail 1 s ([.ref a0] : List Value).toArray (Cond.code yX7_fail cX7_fail 1 (some .int)) RX7 meth (some .int) := CX
  obtain ⟨F, hr, hlk, hNw⟩ := id CX
  have hx := F.1
  have hb := F.2.1
  have hown := F.2.2.2.1
  have hl : lv_has ls 1 [(0, .ref a0)] := hl
  have hS : va_S (va_A (ws_X7_fail cI cJ cB a0 a_kind a_left a_right a_many a_bits a_rows a_table a_roots a_moved a_text a_out a_above a_below a_row a_sum a_point a_pointRows a_pointSorts thrown used rooted size outSize points takenOut great at_ fault open_ wrong by_ sort variable_ pointCount) sz) s.heap s.heap [] := va_S.rf
  have hA : ∀ q, s.heap.size ≤ q → va_A (ws_X7_fail cI cJ cB a0 a_kind a_left a_right a_many a_bits a_rows a_table a_roots a_moved a_text a_out a_above a_below a_row a_sum a_point a_pointRows a_pointSorts thrown used rooted size outSize points takenOut great at_ fault open_ wrong by_ sort variable_ pointCount) sz q := fun q hq => Or.inr (hsz ▸ hq)
  unfold f_X7_fail at h
  refine lv_aload_n hx hb dX7_fail_0 rfl (lv_at hl 0 rfl) ?_
  refine r_get F hK hP 0 25 rfl inW_X7 wm_1117 rfl (by decide) rfl dX7_fail_1 ?_
  refine lv_if_ne (tgt := 15) hx hb dX7_fail_4 (by decide) (fun c4 => ?_) (fun c4 => ?_)
  · have h := o_f c4 h
    exact w_X7_fail_15 CX hK hsz fault wrong _ _ _ h hP hD hS (lv_sub hl [0] rfl)
  · have h := o_t c4 h
    refine lv_aload_n hx hb dX7_fail_7 rfl (lv_at hl 0 rfl) ?_
    refine lv_aload_n hx hb dX7_fail_8 rfl (lv_at hl 0 rfl) ?_
    refine r_get F hK hP 0 22 rfl inW_X7 wm_1114 rfl (by decide) rfl dX7_fail_9 ?_
    refine r_put (wn := (ws_X7_fail cI cJ cB a0 a_kind a_left a_right a_many a_bits a_rows a_table a_roots a_moved a_text a_out a_above a_below a_row a_sum a_point a_pointRows a_pointSorts thrown used rooted size outSize points takenOut great at_ at_ open_ wrong by_ sort variable_ pointCount)) F hK hP hD hS 0 23 rfl inW_X7 wm_1115 tyX7_ok nmX7 rfl rfl (by decide) rfl rfl (Nat.le_of_ble_eq_true rfl) rfl dX7_fail_12 (fun H locs hP hD hS => ?_)
    exact w_X7_fail_15 CX hK hsz at_ wrong _ _ _ h hP hD hS (lv_sub hl [0] rfl)
section G_X7_isVariable
abbrev ws_X7_isVariable (cI cJ cB : ClassId) : va_W := []
abbrev rm_X7_isVariable : Room := { frames := 0, cells := 0, slots := 0, locals := 0 }
def f_X7_isVariable_17 (N : Nat) (s0 : Int32) : Option (Int32) := ckp (s0 = 0 ∨ s0 = 1) (some s0)
def f_X7_isVariable_16 (N : Nat) : Option (Int32) := f_X7_isVariable_17 N 0
def f_X7_isVariable (N : Nat) (x1 : Int32) : Option (Int32) := ifb (x1 < 97) (f_X7_isVariable_16 N ) (ifb (104 < x1) (f_X7_isVariable_16 N ) (f_X7_isVariable_17 N 1))
variable {p : Program} {l : Launch} {e : Env} {s : State} {m : MethodId} {below : List Frame} {meth : Method} {c : Code} {args : Array Value} {x0 : Cond} {D : va_G} {cI cJ cB : ClassId} {sz N : Nat} {ws0 : va_W} {z : Int32}
set_option maxHeartbeats 4000000 in
set_option maxRecDepth 100000 in
theorem w_X7_isVariable_17 (CX : Cx p m c cX7_isVariable 1 s args x0 RX7 meth (some .boolean)) (hK : va_K D vwCl (ty0 cI cJ cB) s) (hsz : s.heap.size = sz) : ∀ (s0 : Int32) (H : Heap) (locs : List Loc) (ls : Array Slot), f_X7_isVariable_17 N s0 = some z → va_P D vwCl (ws_X7_isVariable cI cJ cB) H → va_D (va_A ws0 sz) (ws_X7_isVariable cI cJ cB) → va_S (va_A ws0 sz) s.heap H locs → lv_has ls 1 [] → W p l e rm_X7_isVariable s m args below meth c H locs 0 0 (MQ below (gQ D sz ws0 (ws_X7_isVariable cI cJ cB) (some (.int z))) args s 0 0 (va_A ws0 sz)) (F0 m 17 ls [.int s0]) := by
  obtain ⟨F, hr, hlk, hNw⟩ := id CX
  have hx := F.1
  have hb := F.2.1
  have hown := F.2.2.2.1
  have hA : ∀ q, s.heap.size ≤ q → va_A ws0 sz q := fun q hq => Or.inr (hsz ▸ hq)
  intro s0 H locs ls h hP hD hS hl
  unfold f_X7_isVariable_17 at h
  obtain ⟨hc17, h⟩ := o_c h
  obtain rfl := Option.some.inj h
  exact r_ret (v := s0) F hr hlk (nb01 hc17) dX7_isVariable_17 hsz hP hD hS
set_option maxHeartbeats 4000000 in
set_option maxRecDepth 100000 in
theorem w_X7_isVariable_16 (CX : Cx p m c cX7_isVariable 1 s args x0 RX7 meth (some .boolean)) (hK : va_K D vwCl (ty0 cI cJ cB) s) (hsz : s.heap.size = sz) : ∀ (H : Heap) (locs : List Loc) (ls : Array Slot), f_X7_isVariable_16 N  = some z → va_P D vwCl (ws_X7_isVariable cI cJ cB) H → va_D (va_A ws0 sz) (ws_X7_isVariable cI cJ cB) → va_S (va_A ws0 sz) s.heap H locs → lv_has ls 1 [] → W p l e rm_X7_isVariable s m args below meth c H locs 0 0 (MQ below (gQ D sz ws0 (ws_X7_isVariable cI cJ cB) (some (.int z))) args s 0 0 (va_A ws0 sz)) (F0 m 16 ls []) := by
  obtain ⟨F, hr, hlk, hNw⟩ := id CX
  have hx := F.1
  have hb := F.2.1
  have hown := F.2.2.2.1
  have hA : ∀ q, s.heap.size ≤ q → va_A ws0 sz q := fun q hq => Or.inr (hsz ▸ hq)
  intro  H locs ls h hP hD hS hl
  unfold f_X7_isVariable_16 at h
  refine lv_iconst (v := 0) hx hb dX7_isVariable_16 (by decide) ?_
  exact w_X7_isVariable_17 CX hK hsz 0 _ _ _ h hP hD hS (lv_sub hl [] rfl)
end G_X7_isVariable
set_option maxHeartbeats 4000000 in
set_option maxRecDepth 100000 in
theorem c_X7_isVariable (l : Launch) (D : va_G) (cI cJ cB : ClassId) (sz : Nat) (x1 : Int32) (N : Nat) {z : Int32} (h : f_X7_isVariable N x1 = some z) : Mg l yX7_isVariable cX7_isVariable 1 (some .boolean) rm_X7_isVariable D (ty0 cI cJ cB) [.int x1] sz (ws_X7_isVariable cI cJ cB) (some (.int z)) (ws_X7_isVariable cI cJ cB) := by
  refine Mg.of (by decide) (Nat.le_of_ble_eq_true rfl) ?_
  intro p e s m below meth c CX hK hsz hP hD ls hl
  have CX : Cx p m c cX7_isVariable 1 s ([.int x1] : List Value).toArray (Cond.code yX7_isVariable cX7_isVariable 1 (some .boolean)) RX7 meth (some .boolean) := CX
  obtain ⟨F, hr, hlk, hNw⟩ := id CX
  have hx := F.1
  have hb := F.2.1
  have hown := F.2.2.2.1
  have hl : lv_has ls 1 [(0, .int x1)] := hl
  have hS : va_S (va_A (ws_X7_isVariable cI cJ cB) sz) s.heap s.heap [] := va_S.rf
  have hA : ∀ q, s.heap.size ≤ q → va_A (ws_X7_isVariable cI cJ cB) sz q := fun q hq => Or.inr (hsz ▸ hq)
  unfold f_X7_isVariable at h
  refine lv_iload_n hx hb dX7_isVariable_0 rfl (lv_at hl 0 rfl) ?_
  refine lv_bipush (v := 97) hx hb dX7_isVariable_1 (by decide) ?_
  refine lv_icmp_lt (tgt := 16) hx hb dX7_isVariable_3 (by decide) (fun c3 => ?_) (fun c3 => ?_)
  · have h := o_t c3 h
    exact w_X7_isVariable_16 CX hK hsz  _ _ _ h hP hD hS (lv_sub hl [] rfl)
  · have h := o_f c3 h
    refine lv_iload_n hx hb dX7_isVariable_6 rfl (lv_at hl 0 rfl) ?_
    refine lv_bipush (v := 104) hx hb dX7_isVariable_7 (by decide) ?_
    refine lv_icmp_gt (tgt := 16) hx hb dX7_isVariable_9 (by decide) (fun c9 => ?_) (fun c9 => ?_)
    · have h := o_t c9 h
      exact w_X7_isVariable_16 CX hK hsz  _ _ _ h hP hD hS (lv_sub hl [] rfl)
    · have h := o_f c9 h
      refine lv_iconst (v := 1) hx hb dX7_isVariable_12 (by decide) ?_
      refine lv_goto (tgt := 17) hx hb dX7_isVariable_13 (by decide) ?_
      exact w_X7_isVariable_17 CX hK hsz 1 _ _ _ h hP hD hS (lv_sub hl [] rfl)
section G_X7_isDigit
abbrev ws_X7_isDigit (cI cJ cB : ClassId) : va_W := []
abbrev rm_X7_isDigit : Room := { frames := 0, cells := 0, slots := 0, locals := 0 }
def f_X7_isDigit_17 (N : Nat) (s0 : Int32) : Option (Int32) := ckp (s0 = 0 ∨ s0 = 1) (some s0)
def f_X7_isDigit_16 (N : Nat) : Option (Int32) := f_X7_isDigit_17 N 0
def f_X7_isDigit (N : Nat) (x1 : Int32) : Option (Int32) := ifb (x1 < 48) (f_X7_isDigit_16 N ) (ifb (57 < x1) (f_X7_isDigit_16 N ) (f_X7_isDigit_17 N 1))
variable {p : Program} {l : Launch} {e : Env} {s : State} {m : MethodId} {below : List Frame} {meth : Method} {c : Code} {args : Array Value} {x0 : Cond} {D : va_G} {cI cJ cB : ClassId} {sz N : Nat} {ws0 : va_W} {z : Int32}
set_option maxHeartbeats 4000000 in
set_option maxRecDepth 100000 in
theorem w_X7_isDigit_17 (CX : Cx p m c cX7_isDigit 1 s args x0 RX7 meth (some .boolean)) (hK : va_K D vwCl (ty0 cI cJ cB) s) (hsz : s.heap.size = sz) : ∀ (s0 : Int32) (H : Heap) (locs : List Loc) (ls : Array Slot), f_X7_isDigit_17 N s0 = some z → va_P D vwCl (ws_X7_isDigit cI cJ cB) H → va_D (va_A ws0 sz) (ws_X7_isDigit cI cJ cB) → va_S (va_A ws0 sz) s.heap H locs → lv_has ls 1 [] → W p l e rm_X7_isDigit s m args below meth c H locs 0 0 (MQ below (gQ D sz ws0 (ws_X7_isDigit cI cJ cB) (some (.int z))) args s 0 0 (va_A ws0 sz)) (F0 m 17 ls [.int s0]) := by
  obtain ⟨F, hr, hlk, hNw⟩ := id CX
  have hx := F.1
  have hb := F.2.1
  have hown := F.2.2.2.1
  have hA : ∀ q, s.heap.size ≤ q → va_A ws0 sz q := fun q hq => Or.inr (hsz ▸ hq)
  intro s0 H locs ls h hP hD hS hl
  unfold f_X7_isDigit_17 at h
  obtain ⟨hc17, h⟩ := o_c h
  obtain rfl := Option.some.inj h
  exact r_ret (v := s0) F hr hlk (nb01 hc17) dX7_isDigit_17 hsz hP hD hS
set_option maxHeartbeats 4000000 in
set_option maxRecDepth 100000 in
theorem w_X7_isDigit_16 (CX : Cx p m c cX7_isDigit 1 s args x0 RX7 meth (some .boolean)) (hK : va_K D vwCl (ty0 cI cJ cB) s) (hsz : s.heap.size = sz) : ∀ (H : Heap) (locs : List Loc) (ls : Array Slot), f_X7_isDigit_16 N  = some z → va_P D vwCl (ws_X7_isDigit cI cJ cB) H → va_D (va_A ws0 sz) (ws_X7_isDigit cI cJ cB) → va_S (va_A ws0 sz) s.heap H locs → lv_has ls 1 [] → W p l e rm_X7_isDigit s m args below meth c H locs 0 0 (MQ below (gQ D sz ws0 (ws_X7_isDigit cI cJ cB) (some (.int z))) args s 0 0 (va_A ws0 sz)) (F0 m 16 ls []) := by
  obtain ⟨F, hr, hlk, hNw⟩ := id CX
  have hx := F.1
  have hb := F.2.1
  have hown := F.2.2.2.1
  have hA : ∀ q, s.heap.size ≤ q → va_A ws0 sz q := fun q hq => Or.inr (hsz ▸ hq)
  intro  H locs ls h hP hD hS hl
  unfold f_X7_isDigit_16 at h
  refine lv_iconst (v := 0) hx hb dX7_isDigit_16 (by decide) ?_
  exact w_X7_isDigit_17 CX hK hsz 0 _ _ _ h hP hD hS (lv_sub hl [] rfl)
end G_X7_isDigit
set_option maxHeartbeats 4000000 in
set_option maxRecDepth 100000 in
theorem c_X7_isDigit (l : Launch) (D : va_G) (cI cJ cB : ClassId) (sz : Nat) (x1 : Int32) (N : Nat) {z : Int32} (h : f_X7_isDigit N x1 = some z) : Mg l yX7_isDigit cX7_isDigit 1 (some .boolean) rm_X7_isDigit D (ty0 cI cJ cB) [.int x1] sz (ws_X7_isDigit cI cJ cB) (some (.int z)) (ws_X7_isDigit cI cJ cB) := by
  refine Mg.of (by decide) (Nat.le_of_ble_eq_true rfl) ?_
  intro p e s m below meth c CX hK hsz hP hD ls hl
  have CX : Cx p m c cX7_isDigit 1 s ([.int x1] : List Value).toArray (Cond.code yX7_isDigit cX7_isDigit 1 (some .boolean)) RX7 meth (some .boolean) := CX
  obtain ⟨F, hr, hlk, hNw⟩ := id CX
  have hx := F.1
  have hb := F.2.1
  have hown := F.2.2.2.1
  have hl : lv_has ls 1 [(0, .int x1)] := hl
  have hS : va_S (va_A (ws_X7_isDigit cI cJ cB) sz) s.heap s.heap [] := va_S.rf
  have hA : ∀ q, s.heap.size ≤ q → va_A (ws_X7_isDigit cI cJ cB) sz q := fun q hq => Or.inr (hsz ▸ hq)
  unfold f_X7_isDigit at h
  refine lv_iload_n hx hb dX7_isDigit_0 rfl (lv_at hl 0 rfl) ?_
  refine lv_bipush (v := 48) hx hb dX7_isDigit_1 (by decide) ?_
  refine lv_icmp_lt (tgt := 16) hx hb dX7_isDigit_3 (by decide) (fun c3 => ?_) (fun c3 => ?_)
  · have h := o_t c3 h
    exact w_X7_isDigit_16 CX hK hsz  _ _ _ h hP hD hS (lv_sub hl [] rfl)
  · have h := o_f c3 h
    refine lv_iload_n hx hb dX7_isDigit_6 rfl (lv_at hl 0 rfl) ?_
    refine lv_bipush (v := 57) hx hb dX7_isDigit_7 (by decide) ?_
    refine lv_icmp_gt (tgt := 16) hx hb dX7_isDigit_9 (by decide) (fun c9 => ?_) (fun c9 => ?_)
    · have h := o_t c9 h
      exact w_X7_isDigit_16 CX hK hsz  _ _ _ h hP hD hS (lv_sub hl [] rfl)
    · have h := o_f c9 h
      refine lv_iconst (v := 1) hx hb dX7_isDigit_12 (by decide) ?_
      refine lv_goto (tgt := 17) hx hb dX7_isDigit_13 (by decide) ?_
      exact w_X7_isDigit_17 CX hK hsz 1 _ _ _ h hP hD hS (lv_sub hl [] rfl)
section G_X7_item
abbrev ws_X7_item (cI cJ cB : ClassId) (a0 a_kind a_left a_right a_many a_bits a_rows a_table a_roots a_moved a_out a_above a_below a_row a_point a_pointRows a_pointSorts a_text a_sum : Nat) (thrown : Int32) (used : Int32) (rooted : Int32) (size : Int32) (outSize : Int32) (points : Int32) (takenOut : Int32) (great : Int32) (at_ : Int32) (fault : Int32) (open_ : Int32) (wrong : Int32) (by_ : Int64) (sort : Int32) (variable_ : Int32) (pointCount : Int32) (text : Nat → Int32) (sum_ : Nat → Int64) : va_W := [(a0, .inr (9, [.int thrown, .ref a_kind, .ref a_left, .ref a_right, .ref a_many, .ref a_bits, .ref a_rows, .ref a_table, .int used, .ref a_roots, .int rooted, .ref a_moved, .ref a_text, .int size, .ref a_out, .int outSize, .ref a_above, .ref a_below, .int points, .int takenOut, .int great, .ref a_row, .int at_, .int fault, .int open_, .int wrong, .ref a_sum, .ref a_point, .long by_, .int sort, .int variable_, .ref a_pointRows, .ref a_pointSorts, .int pointCount])), (a_text, .inl (cB, 240, .inl text)), (a_sum, .inl (cJ, 9, .inr (.inl sum_)))]
abbrev rm_X7_item : Room := { frames := 2, cells := 0, slots := 0, locals := 40 }
def f_X7_item_155 (N : Nat) (size : Int32) (at_ : Int32) (fault : Int32) (wrong : Int32) (text : Nat → Int32) (sum_ : Nat → Int64) : Option ((Int32) × (Int32) × (Int32) × (Nat → Int64)) := (f_X7_fail N at_ fault wrong).bind (fun z156 => some (at_, z156.2.1, z156.2.2, sum_))
def f_X7_item_327 (N : Nat) (size : Int32) (at_ : Int32) (fault : Int32) (wrong : Int32) (text : Nat → Int32) (sum_ : Nat → Int64) : Option ((Int32) × (Int32) × (Int32) × (Nat → Int64)) := some (at_, fault, wrong, sum_)
def f_X7_item_241 (N : Nat) (size : Int32) (at_ : Int32) (fault : Int32) (wrong : Int32) (text : Nat → Int32) (sum_ : Nat → Int64) (y1 : Int64) (y4 : Int64) (y7 : Int64) : Option ((Int32) × (Int32) × (Int32) × (Nat → Int64)) := (f_X7_peek N size at_ text).bind (fun z242 => (f_X7_isDigit N z242).bind (fun z245 => ifb (z245 = 0) (ckp (¬ y7 = 0) ((f_X7_blanks N size at_ text).bind (fun z272 => (f_X7_peek N size z272 text).bind (fun z276 => (f_X7_isVariable N z276).bind (fun z279 => ifb (z279 = 0) (ix 8 9 (ix 8 9 (f_X7_item_327 N size z272 fault wrong text (vp_updL sum_ (8 : Int32).toNatClampNeg ((sum_ (8 : Int32).toNatClampNeg) + ((y4 * (27720 / y7)) * y1)))))) ((f_X7_peek N size z272 text).bind (fun z290 => ix (z290 - 97) 9 (ix (z290 - 97) 9 (f_X7_item_327 N size (z272 + 1) fault wrong text (vp_updL sum_ (z290 - 97).toNatClampNeg ((sum_ (z290 - 97).toNatClampNeg) + ((y4 * (27720 / y7)) * y1)))))))))))) ((f_X7_fail N at_ fault wrong).bind (fun z252 => some (at_, z252.2.1, z252.2.2, sum_)))))
def f_X7_item_216 (N : Nat) (size : Int32) (at_ : Int32) (fault : Int32) (wrong : Int32) (text : Nat → Int32) (sum_ : Nat → Int64) (y1 : Int64) (y4 : Int64) : Option ((Int32) × (Int32) × (Int32) × (Nat → Int64)) := (f_X7_peek N size at_ text).bind (fun z220 => f_X7_item_241 N size (at_ + 1) fault wrong text sum_ y1 y4 ((10 + z220.toInt64) - 48))
def f_X7_item_114 (N : Nat) (size : Int32) (at_ : Int32) (fault : Int32) (wrong : Int32) (text : Nat → Int32) (sum_ : Nat → Int64) (y1 : Int64) (y4 : Int64) : Option ((Int32) × (Int32) × (Int32) × (Nat → Int64)) := (f_X7_peek N size at_ text).bind (fun z118 => ifb (z118 = 47) ((f_X7_peek N size (at_ + 1) text).bind (fun z137 => (f_X7_isDigit N z137).bind (fun z140 => ifb (z140 = 0) (f_X7_item_155 N size (at_ + 1) fault wrong text sum_) ((f_X7_peek N size (at_ + 1) text).bind (fun z147 => ifb (z147 = 48) (f_X7_item_155 N size (at_ + 1) fault wrong text sum_) ((f_X7_peek N size (at_ + 1) text).bind (fun z163 => ifb ((lg_cmp ((z163 - 48).toInt64) 1) = 0) ((f_X7_peek N size ((at_ + 1) + 1) text).bind (fun z190 => ifb (z190 = 48) (f_X7_item_216 N size ((at_ + 1) + 1) fault wrong text sum_ y1 y4) ((f_X7_peek N size ((at_ + 1) + 1) text).bind (fun z199 => ifb (z199 = 49) (f_X7_item_216 N size ((at_ + 1) + 1) fault wrong text sum_ y1 y4) ((f_X7_peek N size ((at_ + 1) + 1) text).bind (fun z208 => ifb (z208 = 50) (f_X7_item_216 N size ((at_ + 1) + 1) fault wrong text sum_ y1 y4) (f_X7_item_241 N size ((at_ + 1) + 1) fault wrong text sum_ y1 y4 ((z163 - 48).toInt64)))))))) (f_X7_item_241 N size ((at_ + 1) + 1) fault wrong text sum_ y1 y4 ((z163 - 48).toInt64))))))))) (f_X7_item_241 N size at_ fault wrong text sum_ y1 y4 1))
def f_X7_item_64 (N : Nat) : Nat → Int32 → Int32 → Int32 → Int32 → (Nat → Int32) → (Nat → Int64) → Int64 → Int64 → Int32 → Option ((Int32) × (Int32) × (Int32) × (Nat → Int64))
  | 0 => fun _ _ _ _ _ _ _ _ _ => none
  | n + 1 => fun size at_ fault wrong text sum_ y1 y4 y6 => (f_X7_peek N size at_ text).bind (fun z65 => (f_X7_isDigit N z65).bind (fun z68 => ifb (z68 = 0) (f_X7_item_114 N size at_ fault wrong text sum_ y1 y4) (ifb (4 ≤ y6) (f_X7_item_114 N size at_ fault wrong text sum_ y1 y4) ((f_X7_peek N size at_ text).bind (fun z87 => f_X7_item_64 N n size (at_ + 1) fault wrong text sum_ y1 (((10 * y4) + z87.toInt64) - 48) (y6 + 1))))))
def f_X7_item (N : Nat) (size : Int32) (at_ : Int32) (fault : Int32) (wrong : Int32) (text : Nat → Int32) (sum_ : Nat → Int64) (x1 : Int64) : Option ((Int32) × (Int32) × (Int32) × (Nat → Int64)) := (f_X7_blanks N size at_ text).bind (fun z1 => (f_X7_peek N size z1 text).bind (fun z5 => (f_X7_isVariable N z5).bind (fun z10 => ifb (z10 = 0) ((f_X7_isDigit N z5).bind (fun z45 => ifb (z45 = 0) ((f_X7_fail N z1 fault wrong).bind (fun z52 => some (z1, z52.2.1, z52.2.2, sum_))) (f_X7_item_64 N N size z1 fault wrong text sum_ x1 0 0))) (ix (z5 - 97) 9 (ix (z5 - 97) 9 (some (z1 + 1, fault, wrong, vp_updL sum_ (z5 - 97).toNatClampNeg ((sum_ (z5 - 97).toNatClampNeg) + (27720 * x1)))))))))
variable {p : Program} {l : Launch} {e : Env} {s : State} {m : MethodId} {below : List Frame} {meth : Method} {c : Code} {args : Array Value} {x0 : Cond} {D : va_G} {cI cJ cB : ClassId} {sz N : Nat} {ws0 : va_W} {a0 a_kind a_left a_right a_many a_bits a_rows a_table a_roots a_moved a_out a_above a_below a_row a_point a_pointRows a_pointSorts a_text a_sum : Nat} {thrown : Int32} {used : Int32} {rooted : Int32} {size : Int32} {outSize : Int32} {points : Int32} {takenOut : Int32} {great : Int32} {open_ : Int32} {by_ : Int64} {sort : Int32} {variable_ : Int32} {pointCount : Int32} {text : Nat → Int32} {z : (Int32) × (Int32) × (Int32) × (Nat → Int64)}
set_option maxHeartbeats 4000000 in
set_option maxRecDepth 100000 in
theorem w_X7_item_155 (CX : Cx p m c cX7_item 11 s args x0 RX7 meth none) (hK : va_K D vwCl (ty0 cI cJ cB) s) (hsz : s.heap.size = sz) : ∀ (at_ : Int32) (fault : Int32) (wrong : Int32) (sum_ : Nat → Int64) (H : Heap) (locs : List Loc) (ls : Array Slot), f_X7_item_155 N size at_ fault wrong text sum_ = some z → va_P D vwCl (ws_X7_item cI cJ cB a0 a_kind a_left a_right a_many a_bits a_rows a_table a_roots a_moved a_out a_above a_below a_row a_point a_pointRows a_pointSorts a_text a_sum thrown used rooted size outSize points takenOut great at_ fault open_ wrong by_ sort variable_ pointCount text sum_) H → va_D (va_A ws0 sz) (ws_X7_item cI cJ cB a0 a_kind a_left a_right a_many a_bits a_rows a_table a_roots a_moved a_out a_above a_below a_row a_point a_pointRows a_pointSorts a_text a_sum thrown used rooted size outSize points takenOut great at_ fault open_ wrong by_ sort variable_ pointCount text sum_) → va_S (va_A ws0 sz) s.heap H locs → lv_has ls 11 [(0, .ref a0)] → W p l e rm_X7_item s m args below meth c H locs 0 0 (MQ below (gQ D sz ws0 (ws_X7_item cI cJ cB a0 a_kind a_left a_right a_many a_bits a_rows a_table a_roots a_moved a_out a_above a_below a_row a_point a_pointRows a_pointSorts a_text a_sum thrown used rooted size outSize points takenOut great z.1 z.2.1 open_ z.2.2.1 by_ sort variable_ pointCount text z.2.2.2) none) args s 0 0 (va_A ws0 sz)) (F0 m 155 ls []) := by
  obtain ⟨F, hr, hlk, hNw⟩ := id CX
  have hx := F.1
  have hb := F.2.1
  have hown := F.2.2.2.1
  have hA : ∀ q, s.heap.size ≤ q → va_A ws0 sz q := fun q hq => Or.inr (hsz ▸ hq)
  intro at_ fault wrong sum_ H locs ls h hP hD hS hl
  unfold f_X7_item_155 at h
  refine lv_aload_n hx hb dX7_item_155 rfl (lv_at hl 0 rfl) ?_
  obtain ⟨z156, hz156, h⟩ := o_b h
  refine k_v (wn := (ws_X7_item cI cJ cB a0 a_kind a_left a_right a_many a_bits a_rows a_table a_roots a_moved a_out a_above a_below a_row a_point a_pointRows a_pointSorts a_text a_sum thrown used rooted size outSize points takenOut great at_ z156.2.1 open_ z156.2.2 by_ sort variable_ pointCount text sum_)) (As := []) (rest := []) F hNw hK hP hD hS hA (c_X7_fail l D cI cJ cB a0 a_kind a_left a_right a_many a_bits a_rows a_table a_roots a_moved a_text a_out a_above a_below a_row a_sum a_point a_pointRows a_pointSorts _ thrown used rooted size outSize points takenOut great at_ fault open_ wrong by_ sort variable_ pointCount N hz156) wm_1250 cv_X7_fail [0] [1, 2] [2, 0, 1] (⟨rfl, rfl, rfl, by decide, rfl⟩ : Ix [0] [1, 2] [2, 0, 1] 3) rfl (hN_of 2 3 (by decide +kernel) rfl (by decide +kernel) rfl) rfl rfl rfl rfl ⟨rfl, rfl, by decide, by decide⟩ hl.1 rfl (Nat.le_of_ble_eq_true rfl) ⟨Nat.zero_le _, Nat.zero_le _⟩ dX7_item_156 (fun H locs hP hD hS => ?_)
  refine lv_istore (lv' := [(9, .int z156.1), (0, .ref a0)]) hx hb dX7_item_159 hl (by decide) rfl (fun ls hl => ?_)
  obtain rfl := Option.some.inj h
  exact r_vret F hr hlk dX7_item_161 hsz hP hD hS
set_option maxHeartbeats 4000000 in
set_option maxRecDepth 100000 in
theorem w_X7_item_327 (CX : Cx p m c cX7_item 11 s args x0 RX7 meth none) (hK : va_K D vwCl (ty0 cI cJ cB) s) (hsz : s.heap.size = sz) : ∀ (at_ : Int32) (fault : Int32) (wrong : Int32) (sum_ : Nat → Int64) (H : Heap) (locs : List Loc) (ls : Array Slot), f_X7_item_327 N size at_ fault wrong text sum_ = some z → va_P D vwCl (ws_X7_item cI cJ cB a0 a_kind a_left a_right a_many a_bits a_rows a_table a_roots a_moved a_out a_above a_below a_row a_point a_pointRows a_pointSorts a_text a_sum thrown used rooted size outSize points takenOut great at_ fault open_ wrong by_ sort variable_ pointCount text sum_) H → va_D (va_A ws0 sz) (ws_X7_item cI cJ cB a0 a_kind a_left a_right a_many a_bits a_rows a_table a_roots a_moved a_out a_above a_below a_row a_point a_pointRows a_pointSorts a_text a_sum thrown used rooted size outSize points takenOut great at_ fault open_ wrong by_ sort variable_ pointCount text sum_) → va_S (va_A ws0 sz) s.heap H locs → lv_has ls 11 [] → W p l e rm_X7_item s m args below meth c H locs 0 0 (MQ below (gQ D sz ws0 (ws_X7_item cI cJ cB a0 a_kind a_left a_right a_many a_bits a_rows a_table a_roots a_moved a_out a_above a_below a_row a_point a_pointRows a_pointSorts a_text a_sum thrown used rooted size outSize points takenOut great z.1 z.2.1 open_ z.2.2.1 by_ sort variable_ pointCount text z.2.2.2) none) args s 0 0 (va_A ws0 sz)) (F0 m 327 ls []) := by
  obtain ⟨F, hr, hlk, hNw⟩ := id CX
  have hx := F.1
  have hb := F.2.1
  have hown := F.2.2.2.1
  have hA : ∀ q, s.heap.size ≤ q → va_A ws0 sz q := fun q hq => Or.inr (hsz ▸ hq)
  intro at_ fault wrong sum_ H locs ls h hP hD hS hl
  unfold f_X7_item_327 at h
  obtain rfl := Option.some.inj h
  exact r_vret F hr hlk dX7_item_327 hsz hP hD hS
set_option maxHeartbeats 4000000 in
set_option maxRecDepth 100000 in
theorem w_X7_item_241 (CX : Cx p m c cX7_item 11 s args x0 RX7 meth none) (hK : va_K D vwCl (ty0 cI cJ cB) s) (hsz : s.heap.size = sz) : ∀ (at_ : Int32) (fault : Int32) (wrong : Int32) (sum_ : Nat → Int64) (y1 : Int64) (y4 : Int64) (y7 : Int64) (H : Heap) (locs : List Loc) (ls : Array Slot), f_X7_item_241 N size at_ fault wrong text sum_ y1 y4 y7 = some z → va_P D vwCl (ws_X7_item cI cJ cB a0 a_kind a_left a_right a_many a_bits a_rows a_table a_roots a_moved a_out a_above a_below a_row a_point a_pointRows a_pointSorts a_text a_sum thrown used rooted size outSize points takenOut great at_ fault open_ wrong by_ sort variable_ pointCount text sum_) H → va_D (va_A ws0 sz) (ws_X7_item cI cJ cB a0 a_kind a_left a_right a_many a_bits a_rows a_table a_roots a_moved a_out a_above a_below a_row a_point a_pointRows a_pointSorts a_text a_sum thrown used rooted size outSize points takenOut great at_ fault open_ wrong by_ sort variable_ pointCount text sum_) → va_S (va_A ws0 sz) s.heap H locs → lv_has ls 11 [(0, .ref a0), (1, .long y1), (4, .long y4), (7, .long y7)] → W p l e rm_X7_item s m args below meth c H locs 0 0 (MQ below (gQ D sz ws0 (ws_X7_item cI cJ cB a0 a_kind a_left a_right a_many a_bits a_rows a_table a_roots a_moved a_out a_above a_below a_row a_point a_pointRows a_pointSorts a_text a_sum thrown used rooted size outSize points takenOut great z.1 z.2.1 open_ z.2.2.1 by_ sort variable_ pointCount text z.2.2.2) none) args s 0 0 (va_A ws0 sz)) (F0 m 241 ls []) := by
  obtain ⟨F, hr, hlk, hNw⟩ := id CX
  have hx := F.1
  have hb := F.2.1
  have hown := F.2.2.2.1
  have hA : ∀ q, s.heap.size ≤ q → va_A ws0 sz q := fun q hq => Or.inr (hsz ▸ hq)
  intro at_ fault wrong sum_ y1 y4 y7 H locs ls h hP hD hS hl
  unfold f_X7_item_241 at h
  refine lv_aload_n hx hb dX7_item_241 rfl (lv_at hl 0 rfl) ?_
  obtain ⟨z242, hz242, h⟩ := o_b h
  refine k_v (wn := (ws_X7_item cI cJ cB a0 a_kind a_left a_right a_many a_bits a_rows a_table a_roots a_moved a_out a_above a_below a_row a_point a_pointRows a_pointSorts a_text a_sum thrown used rooted size outSize points takenOut great at_ fault open_ wrong by_ sort variable_ pointCount text sum_)) (As := []) (rest := []) F hNw hK hP hD hS hA (c_X7_peek l D cI cJ cB a0 a_kind a_left a_right a_many a_bits a_rows a_table a_roots a_moved a_out a_above a_below a_row a_sum a_point a_pointRows a_pointSorts a_text _ thrown used rooted size outSize points takenOut great at_ fault open_ wrong by_ sort variable_ pointCount text N hz242) wm_1223 cv_X7_peek [0, 1] [2] [1, 2, 0] (⟨rfl, rfl, rfl, by decide, rfl⟩ : Ix [0, 1] [2] [1, 2, 0] 3) rfl (hN_of 1 3 (by decide +kernel) rfl (by decide +kernel) rfl) rfl rfl rfl rfl ⟨rfl, rfl, by decide, by decide⟩ hl.1 rfl (Nat.le_of_ble_eq_true rfl) ⟨Nat.zero_le _, Nat.zero_le _⟩ dX7_item_242 (fun H locs hP hD hS => ?_)
  obtain ⟨z245, hz245, h⟩ := o_b h
  refine k_s (wn := (ws_X7_item cI cJ cB a0 a_kind a_left a_right a_many a_bits a_rows a_table a_roots a_moved a_out a_above a_below a_row a_point a_pointRows a_pointSorts a_text a_sum thrown used rooted size outSize points takenOut great at_ fault open_ wrong by_ sort variable_ pointCount text sum_)) (As := [.int z242]) (rest := []) F hNw hK hP hD hS hA (c_X7_isDigit l D cI cJ cB _ z242 N hz245) wm_1247 cs_X7_isDigit [] [0, 1, 2] [0, 1, 2] (⟨rfl, rfl, rfl, by decide, rfl⟩ : Ix [] [0, 1, 2] [0, 1, 2] 3) rfl (hN_of 3 3 (by decide +kernel) rfl (by decide +kernel) rfl) rfl ⟨rfl, rfl, by decide, by decide⟩ hl.1 rfl (Nat.le_of_ble_eq_true rfl) ⟨Nat.zero_le _, Nat.zero_le _⟩ dX7_item_245 (fun H locs hP hD hS => ?_)
  refine lv_if_eq (tgt := 258) hx hb dX7_item_248 (by decide) (fun c248 => ?_) (fun c248 => ?_)
  · have h := o_t c248 h
    refine lv_lload hx hb dX7_item_258 (lv_at hl 2 rfl) ?_
    refine lv_ldc2 (v := 27720) hx hb hown (F.2.2.2.2 _ (q_in wm_1246)) dX7_item_260 ?_
    refine lv_lload hx hb dX7_item_263 (lv_at hl 3 rfl) ?_
    obtain ⟨hc265, h⟩ := o_c h
    refine lv_ldiv hx hb dX7_item_265 hc265 ?_
    refine lv_lmul hx hb dX7_item_266 ?_
    refine lv_lload_n hx hb dX7_item_267 rfl (lv_at hl 1 rfl) ?_
    refine lv_lmul hx hb dX7_item_268 ?_
    refine lv_lstore (lv' := [(9, .long ((y4 * (27720 / y7)) * y1)), (0, .ref a0), (1, .long y1), (4, .long y4), (7, .long y7)]) hx hb dX7_item_269 hl (by decide) rfl (fun ls hl => ?_)
    refine lv_aload_n hx hb dX7_item_271 rfl (lv_at hl 1 rfl) ?_
    obtain ⟨z272, hz272, h⟩ := o_b h
    refine k_v (wn := (ws_X7_item cI cJ cB a0 a_kind a_left a_right a_many a_bits a_rows a_table a_roots a_moved a_out a_above a_below a_row a_point a_pointRows a_pointSorts a_text a_sum thrown used rooted size outSize points takenOut great z272 fault open_ wrong by_ sort variable_ pointCount text sum_)) (As := []) (rest := []) F hNw hK hP hD hS hA (c_X7_blanks l D cI cJ cB a0 a_kind a_left a_right a_many a_bits a_rows a_table a_roots a_moved a_out a_above a_below a_row a_sum a_point a_pointRows a_pointSorts a_text _ thrown used rooted size outSize points takenOut great at_ fault open_ wrong by_ sort variable_ pointCount text N hz272) wm_1219 cv_X7_blanks [0, 1] [2] [1, 2, 0] (⟨rfl, rfl, rfl, by decide, rfl⟩ : Ix [0, 1] [2] [1, 2, 0] 3) rfl (hN_of 1 3 (by decide +kernel) rfl (by decide +kernel) rfl) rfl rfl rfl rfl ⟨rfl, rfl, by decide, by decide⟩ hl.1 rfl (Nat.le_of_ble_eq_true rfl) ⟨Nat.zero_le _, Nat.zero_le _⟩ dX7_item_272 (fun H locs hP hD hS => ?_)
    refine lv_aload_n hx hb dX7_item_275 rfl (lv_at hl 1 rfl) ?_
    obtain ⟨z276, hz276, h⟩ := o_b h
    refine k_v (wn := (ws_X7_item cI cJ cB a0 a_kind a_left a_right a_many a_bits a_rows a_table a_roots a_moved a_out a_above a_below a_row a_point a_pointRows a_pointSorts a_text a_sum thrown used rooted size outSize points takenOut great z272 fault open_ wrong by_ sort variable_ pointCount text sum_)) (As := []) (rest := []) F hNw hK hP hD hS hA (c_X7_peek l D cI cJ cB a0 a_kind a_left a_right a_many a_bits a_rows a_table a_roots a_moved a_out a_above a_below a_row a_sum a_point a_pointRows a_pointSorts a_text _ thrown used rooted size outSize points takenOut great z272 fault open_ wrong by_ sort variable_ pointCount text N hz276) wm_1223 cv_X7_peek [0, 1] [2] [1, 2, 0] (⟨rfl, rfl, rfl, by decide, rfl⟩ : Ix [0, 1] [2] [1, 2, 0] 3) rfl (hN_of 1 3 (by decide +kernel) rfl (by decide +kernel) rfl) rfl rfl rfl rfl ⟨rfl, rfl, by decide, by decide⟩ hl.1 rfl (Nat.le_of_ble_eq_true rfl) ⟨Nat.zero_le _, Nat.zero_le _⟩ dX7_item_276 (fun H locs hP hD hS => ?_)
    obtain ⟨z279, hz279, h⟩ := o_b h
    refine k_s (wn := (ws_X7_item cI cJ cB a0 a_kind a_left a_right a_many a_bits a_rows a_table a_roots a_moved a_out a_above a_below a_row a_point a_pointRows a_pointSorts a_text a_sum thrown used rooted size outSize points takenOut great z272 fault open_ wrong by_ sort variable_ pointCount text sum_)) (As := [.int z276]) (rest := []) F hNw hK hP hD hS hA (c_X7_isVariable l D cI cJ cB _ z276 N hz279) wm_1243 cs_X7_isVariable [] [0, 1, 2] [0, 1, 2] (⟨rfl, rfl, rfl, by decide, rfl⟩ : Ix [] [0, 1, 2] [0, 1, 2] 3) rfl (hN_of 3 3 (by decide +kernel) rfl (by decide +kernel) rfl) rfl ⟨rfl, rfl, by decide, by decide⟩ hl.1 rfl (Nat.le_of_ble_eq_true rfl) ⟨Nat.zero_le _, Nat.zero_le _⟩ dX7_item_279 (fun H locs hP hD hS => ?_)
    refine lv_if_eq (tgt := 315) hx hb dX7_item_282 (by decide) (fun c282 => ?_) (fun c282 => ?_)
    · have h := o_t c282 h
      refine lv_aload_n hx hb dX7_item_315 rfl (lv_at hl 1 rfl) ?_
      refine r_get F hK hP 0 26 rfl inW_X7 wm_1118 rfl (by decide) rfl dX7_item_316 ?_
      refine lv_bipush (v := 8) hx hb dX7_item_319 (by decide) ?_
      refine lv_dup2_11 hx hb dX7_item_321 rfl rfl ?_
      obtain ⟨hi322, h⟩ := o_ix h
      refine va_lald hx hb hK hP 2 1 rfl rfl hi322 dX7_item_322 ?_
      refine lv_lload hx hb dX7_item_323 (lv_at hl 0 rfl) ?_
      refine lv_ladd hx hb dX7_item_325 ?_
      obtain ⟨hi326, h⟩ := o_ix h
      refine r_last (wn := (ws_X7_item cI cJ cB a0 a_kind a_left a_right a_many a_bits a_rows a_table a_roots a_moved a_out a_above a_below a_row a_point a_pointRows a_pointSorts a_text a_sum thrown used rooted size outSize points takenOut great z272 fault open_ wrong by_ sort variable_ pointCount text (vp_updL sum_ (8 : Int32).toNatClampNeg ((sum_ (8 : Int32).toNatClampNeg) + ((y4 * (27720 / y7)) * y1))))) F hK hP hD hS 2 1 hi326 rfl rfl rfl dX7_item_326 (fun H locs hP hD hS => ?_)
      exact w_X7_item_327 CX hK hsz z272 fault wrong (vp_updL sum_ (8 : Int32).toNatClampNeg ((sum_ (8 : Int32).toNatClampNeg) + ((y4 * (27720 / y7)) * y1))) _ _ _ h hP hD hS (lv_sub hl [] rfl)
    · have h := o_f c282 h
      refine lv_aload_n hx hb dX7_item_285 rfl (lv_at hl 1 rfl) ?_
      refine r_get F hK hP 0 26 rfl inW_X7 wm_1118 rfl (by decide) rfl dX7_item_286 ?_
      refine lv_aload_n hx hb dX7_item_289 rfl (lv_at hl 1 rfl) ?_
      obtain ⟨z290, hz290, h⟩ := o_b h
      refine k_v (wn := (ws_X7_item cI cJ cB a0 a_kind a_left a_right a_many a_bits a_rows a_table a_roots a_moved a_out a_above a_below a_row a_point a_pointRows a_pointSorts a_text a_sum thrown used rooted size outSize points takenOut great z272 fault open_ wrong by_ sort variable_ pointCount text sum_)) (As := []) (rest := [.ref a_sum]) F hNw hK hP hD hS hA (c_X7_peek l D cI cJ cB a0 a_kind a_left a_right a_many a_bits a_rows a_table a_roots a_moved a_out a_above a_below a_row a_sum a_point a_pointRows a_pointSorts a_text _ thrown used rooted size outSize points takenOut great z272 fault open_ wrong by_ sort variable_ pointCount text N hz290) wm_1223 cv_X7_peek [0, 1] [2] [1, 2, 0] (⟨rfl, rfl, rfl, by decide, rfl⟩ : Ix [0, 1] [2] [1, 2, 0] 3) rfl (hN_of 1 3 (by decide +kernel) rfl (by decide +kernel) rfl) rfl rfl rfl rfl ⟨rfl, rfl, by decide, by decide⟩ hl.1 rfl (Nat.le_of_ble_eq_true rfl) ⟨Nat.zero_le _, Nat.zero_le _⟩ dX7_item_290 (fun H locs hP hD hS => ?_)
      refine lv_bipush (v := 97) hx hb dX7_item_293 (by decide) ?_
      refine lv_isub hx hb dX7_item_295 ?_
      refine lv_dup2_11 hx hb dX7_item_296 rfl rfl ?_
      obtain ⟨hi297, h⟩ := o_ix h
      refine va_lald hx hb hK hP 2 1 rfl rfl hi297 dX7_item_297 ?_
      refine lv_lload hx hb dX7_item_298 (lv_at hl 0 rfl) ?_
      refine lv_ladd hx hb dX7_item_300 ?_
      obtain ⟨hi301, h⟩ := o_ix h
      refine r_last (wn := (ws_X7_item cI cJ cB a0 a_kind a_left a_right a_many a_bits a_rows a_table a_roots a_moved a_out a_above a_below a_row a_point a_pointRows a_pointSorts a_text a_sum thrown used rooted size outSize points takenOut great z272 fault open_ wrong by_ sort variable_ pointCount text (vp_updL sum_ (z290 - 97).toNatClampNeg ((sum_ (z290 - 97).toNatClampNeg) + ((y4 * (27720 / y7)) * y1))))) F hK hP hD hS 2 1 hi301 rfl rfl rfl dX7_item_301 (fun H locs hP hD hS => ?_)
      refine lv_aload_n hx hb dX7_item_302 rfl (lv_at hl 1 rfl) ?_
      refine lv_dup hx hb dX7_item_303 rfl ?_
      refine r_get F hK hP 0 22 rfl inW_X7 wm_1114 rfl (by decide) rfl dX7_item_304 ?_
      refine lv_iconst (v := 1) hx hb dX7_item_307 (by decide) ?_
      refine lv_iadd hx hb dX7_item_308 ?_
      refine r_put (wn := (ws_X7_item cI cJ cB a0 a_kind a_left a_right a_many a_bits a_rows a_table a_roots a_moved a_out a_above a_below a_row a_point a_pointRows a_pointSorts a_text a_sum thrown used rooted size outSize points takenOut great (z272 + 1) fault open_ wrong by_ sort variable_ pointCount text (vp_updL sum_ (z290 - 97).toNatClampNeg ((sum_ (z290 - 97).toNatClampNeg) + ((y4 * (27720 / y7)) * y1))))) F hK hP hD hS 0 22 rfl inW_X7 wm_1114 tyX7_ok nmX7 rfl rfl (by decide) rfl rfl (Nat.le_of_ble_eq_true rfl) rfl dX7_item_309 (fun H locs hP hD hS => ?_)
      refine lv_goto (tgt := 327) hx hb dX7_item_312 (by decide) ?_
      exact w_X7_item_327 CX hK hsz (z272 + 1) fault wrong (vp_updL sum_ (z290 - 97).toNatClampNeg ((sum_ (z290 - 97).toNatClampNeg) + ((y4 * (27720 / y7)) * y1))) _ _ _ h hP hD hS (lv_sub hl [] rfl)
  · have h := o_f c248 h
    refine lv_aload_n hx hb dX7_item_251 rfl (lv_at hl 0 rfl) ?_
    obtain ⟨z252, hz252, h⟩ := o_b h
    refine k_v (wn := (ws_X7_item cI cJ cB a0 a_kind a_left a_right a_many a_bits a_rows a_table a_roots a_moved a_out a_above a_below a_row a_point a_pointRows a_pointSorts a_text a_sum thrown used rooted size outSize points takenOut great at_ z252.2.1 open_ z252.2.2 by_ sort variable_ pointCount text sum_)) (As := []) (rest := []) F hNw hK hP hD hS hA (c_X7_fail l D cI cJ cB a0 a_kind a_left a_right a_many a_bits a_rows a_table a_roots a_moved a_text a_out a_above a_below a_row a_sum a_point a_pointRows a_pointSorts _ thrown used rooted size outSize points takenOut great at_ fault open_ wrong by_ sort variable_ pointCount N hz252) wm_1250 cv_X7_fail [0] [1, 2] [2, 0, 1] (⟨rfl, rfl, rfl, by decide, rfl⟩ : Ix [0] [1, 2] [2, 0, 1] 3) rfl (hN_of 2 3 (by decide +kernel) rfl (by decide +kernel) rfl) rfl rfl rfl rfl ⟨rfl, rfl, by decide, by decide⟩ hl.1 rfl (Nat.le_of_ble_eq_true rfl) ⟨Nat.zero_le _, Nat.zero_le _⟩ dX7_item_252 (fun H locs hP hD hS => ?_)
    refine lv_istore (lv' := [(9, .int z252.1), (0, .ref a0), (1, .long y1), (4, .long y4), (7, .long y7)]) hx hb dX7_item_255 hl (by decide) rfl (fun ls hl => ?_)
    obtain rfl := Option.some.inj h
    exact r_vret F hr hlk dX7_item_257 hsz hP hD hS
set_option maxHeartbeats 4000000 in
set_option maxRecDepth 100000 in
theorem w_X7_item_216 (CX : Cx p m c cX7_item 11 s args x0 RX7 meth none) (hK : va_K D vwCl (ty0 cI cJ cB) s) (hsz : s.heap.size = sz) : ∀ (at_ : Int32) (fault : Int32) (wrong : Int32) (sum_ : Nat → Int64) (y1 : Int64) (y4 : Int64) (H : Heap) (locs : List Loc) (ls : Array Slot), f_X7_item_216 N size at_ fault wrong text sum_ y1 y4 = some z → va_P D vwCl (ws_X7_item cI cJ cB a0 a_kind a_left a_right a_many a_bits a_rows a_table a_roots a_moved a_out a_above a_below a_row a_point a_pointRows a_pointSorts a_text a_sum thrown used rooted size outSize points takenOut great at_ fault open_ wrong by_ sort variable_ pointCount text sum_) H → va_D (va_A ws0 sz) (ws_X7_item cI cJ cB a0 a_kind a_left a_right a_many a_bits a_rows a_table a_roots a_moved a_out a_above a_below a_row a_point a_pointRows a_pointSorts a_text a_sum thrown used rooted size outSize points takenOut great at_ fault open_ wrong by_ sort variable_ pointCount text sum_) → va_S (va_A ws0 sz) s.heap H locs → lv_has ls 11 [(0, .ref a0), (1, .long y1), (4, .long y4)] → W p l e rm_X7_item s m args below meth c H locs 0 0 (MQ below (gQ D sz ws0 (ws_X7_item cI cJ cB a0 a_kind a_left a_right a_many a_bits a_rows a_table a_roots a_moved a_out a_above a_below a_row a_point a_pointRows a_pointSorts a_text a_sum thrown used rooted size outSize points takenOut great z.1 z.2.1 open_ z.2.2.1 by_ sort variable_ pointCount text z.2.2.2) none) args s 0 0 (va_A ws0 sz)) (F0 m 216 ls []) := by
  obtain ⟨F, hr, hlk, hNw⟩ := id CX
  have hx := F.1
  have hb := F.2.1
  have hown := F.2.2.2.1
  have hA : ∀ q, s.heap.size ≤ q → va_A ws0 sz q := fun q hq => Or.inr (hsz ▸ hq)
  intro at_ fault wrong sum_ y1 y4 H locs ls h hP hD hS hl
  unfold f_X7_item_216 at h
  refine lv_ldc2 (v := 10) hx hb hown (F.2.2.2.2 _ (q_in wm_1254)) dX7_item_216 ?_
  refine lv_aload_n hx hb dX7_item_219 rfl (lv_at hl 0 rfl) ?_
  obtain ⟨z220, hz220, h⟩ := o_b h
  refine k_v (wn := (ws_X7_item cI cJ cB a0 a_kind a_left a_right a_many a_bits a_rows a_table a_roots a_moved a_out a_above a_below a_row a_point a_pointRows a_pointSorts a_text a_sum thrown used rooted size outSize points takenOut great at_ fault open_ wrong by_ sort variable_ pointCount text sum_)) (As := []) (rest := [.long 10]) F hNw hK hP hD hS hA (c_X7_peek l D cI cJ cB a0 a_kind a_left a_right a_many a_bits a_rows a_table a_roots a_moved a_out a_above a_below a_row a_sum a_point a_pointRows a_pointSorts a_text _ thrown used rooted size outSize points takenOut great at_ fault open_ wrong by_ sort variable_ pointCount text N hz220) wm_1223 cv_X7_peek [0, 1] [2] [1, 2, 0] (⟨rfl, rfl, rfl, by decide, rfl⟩ : Ix [0, 1] [2] [1, 2, 0] 3) rfl (hN_of 1 3 (by decide +kernel) rfl (by decide +kernel) rfl) rfl rfl rfl rfl ⟨rfl, rfl, by decide, by decide⟩ hl.1 rfl (Nat.le_of_ble_eq_true rfl) ⟨Nat.zero_le _, Nat.zero_le _⟩ dX7_item_220 (fun H locs hP hD hS => ?_)
  refine lv_i2l hx hb dX7_item_223 rfl ?_
  refine lv_ladd hx hb dX7_item_224 ?_
  refine lv_ldc2 (v := 48) hx hb hown (F.2.2.2.2 _ (q_in wm_1255)) dX7_item_225 ?_
  refine lv_lsub hx hb dX7_item_228 ?_
  refine lv_lstore (lv' := [(7, .long ((10 + z220.toInt64) - 48)), (0, .ref a0), (1, .long y1), (4, .long y4)]) hx hb dX7_item_229 hl (by decide) rfl (fun ls hl => ?_)
  refine lv_aload_n hx hb dX7_item_231 rfl (lv_at hl 1 rfl) ?_
  refine lv_dup hx hb dX7_item_232 rfl ?_
  refine r_get F hK hP 0 22 rfl inW_X7 wm_1114 rfl (by decide) rfl dX7_item_233 ?_
  refine lv_iconst (v := 1) hx hb dX7_item_236 (by decide) ?_
  refine lv_iadd hx hb dX7_item_237 ?_
  refine r_put (wn := (ws_X7_item cI cJ cB a0 a_kind a_left a_right a_many a_bits a_rows a_table a_roots a_moved a_out a_above a_below a_row a_point a_pointRows a_pointSorts a_text a_sum thrown used rooted size outSize points takenOut great (at_ + 1) fault open_ wrong by_ sort variable_ pointCount text sum_)) F hK hP hD hS 0 22 rfl inW_X7 wm_1114 tyX7_ok nmX7 rfl rfl (by decide) rfl rfl (Nat.le_of_ble_eq_true rfl) rfl dX7_item_238 (fun H locs hP hD hS => ?_)
  exact w_X7_item_241 CX hK hsz (at_ + 1) fault wrong sum_ y1 y4 ((10 + z220.toInt64) - 48) _ _ _ h hP hD hS (lv_sub hl [1, 2, 3, 0] rfl)
set_option maxHeartbeats 4000000 in
set_option maxRecDepth 100000 in
theorem w_X7_item_114 (CX : Cx p m c cX7_item 11 s args x0 RX7 meth none) (hK : va_K D vwCl (ty0 cI cJ cB) s) (hsz : s.heap.size = sz) : ∀ (at_ : Int32) (fault : Int32) (wrong : Int32) (sum_ : Nat → Int64) (y1 : Int64) (y4 : Int64) (H : Heap) (locs : List Loc) (ls : Array Slot), f_X7_item_114 N size at_ fault wrong text sum_ y1 y4 = some z → va_P D vwCl (ws_X7_item cI cJ cB a0 a_kind a_left a_right a_many a_bits a_rows a_table a_roots a_moved a_out a_above a_below a_row a_point a_pointRows a_pointSorts a_text a_sum thrown used rooted size outSize points takenOut great at_ fault open_ wrong by_ sort variable_ pointCount text sum_) H → va_D (va_A ws0 sz) (ws_X7_item cI cJ cB a0 a_kind a_left a_right a_many a_bits a_rows a_table a_roots a_moved a_out a_above a_below a_row a_point a_pointRows a_pointSorts a_text a_sum thrown used rooted size outSize points takenOut great at_ fault open_ wrong by_ sort variable_ pointCount text sum_) → va_S (va_A ws0 sz) s.heap H locs → lv_has ls 11 [(0, .ref a0), (1, .long y1), (4, .long y4)] → W p l e rm_X7_item s m args below meth c H locs 0 0 (MQ below (gQ D sz ws0 (ws_X7_item cI cJ cB a0 a_kind a_left a_right a_many a_bits a_rows a_table a_roots a_moved a_out a_above a_below a_row a_point a_pointRows a_pointSorts a_text a_sum thrown used rooted size outSize points takenOut great z.1 z.2.1 open_ z.2.2.1 by_ sort variable_ pointCount text z.2.2.2) none) args s 0 0 (va_A ws0 sz)) (F0 m 114 ls []) := by
  obtain ⟨F, hr, hlk, hNw⟩ := id CX
  have hx := F.1
  have hb := F.2.1
  have hown := F.2.2.2.1
  have hA : ∀ q, s.heap.size ≤ q → va_A ws0 sz q := fun q hq => Or.inr (hsz ▸ hq)
  intro at_ fault wrong sum_ y1 y4 H locs ls h hP hD hS hl
  unfold f_X7_item_114 at h
  refine lv_lconst (v := 1) hx hb dX7_item_114 (by decide) ?_
  refine lv_lstore (lv' := [(7, .long 1), (0, .ref a0), (1, .long y1), (4, .long y4)]) hx hb dX7_item_115 hl (by decide) rfl (fun ls hl => ?_)
  refine lv_aload_n hx hb dX7_item_117 rfl (lv_at hl 1 rfl) ?_
  obtain ⟨z118, hz118, h⟩ := o_b h
  refine k_v (wn := (ws_X7_item cI cJ cB a0 a_kind a_left a_right a_many a_bits a_rows a_table a_roots a_moved a_out a_above a_below a_row a_point a_pointRows a_pointSorts a_text a_sum thrown used rooted size outSize points takenOut great at_ fault open_ wrong by_ sort variable_ pointCount text sum_)) (As := []) (rest := []) F hNw hK hP hD hS hA (c_X7_peek l D cI cJ cB a0 a_kind a_left a_right a_many a_bits a_rows a_table a_roots a_moved a_out a_above a_below a_row a_sum a_point a_pointRows a_pointSorts a_text _ thrown used rooted size outSize points takenOut great at_ fault open_ wrong by_ sort variable_ pointCount text N hz118) wm_1223 cv_X7_peek [0, 1] [2] [1, 2, 0] (⟨rfl, rfl, rfl, by decide, rfl⟩ : Ix [0, 1] [2] [1, 2, 0] 3) rfl (hN_of 1 3 (by decide +kernel) rfl (by decide +kernel) rfl) rfl rfl rfl rfl ⟨rfl, rfl, by decide, by decide⟩ hl.1 rfl (Nat.le_of_ble_eq_true rfl) ⟨Nat.zero_le _, Nat.zero_le _⟩ dX7_item_118 (fun H locs hP hD hS => ?_)
  refine lv_bipush (v := 47) hx hb dX7_item_121 (by decide) ?_
  refine lv_icmp_ne (tgt := 241) hx hb dX7_item_123 (by decide) (fun c123 => ?_) (fun c123 => ?_)
  · have h := o_f c123 h
    exact w_X7_item_241 CX hK hsz at_ fault wrong sum_ y1 y4 1 _ _ _ h hP hD hS (lv_sub hl [1, 2, 3, 0] rfl)
  · have h := o_t c123 h
    refine lv_aload_n hx hb dX7_item_126 rfl (lv_at hl 1 rfl) ?_
    refine lv_dup hx hb dX7_item_127 rfl ?_
    refine r_get F hK hP 0 22 rfl inW_X7 wm_1114 rfl (by decide) rfl dX7_item_128 ?_
    refine lv_iconst (v := 1) hx hb dX7_item_131 (by decide) ?_
    refine lv_iadd hx hb dX7_item_132 ?_
    refine r_put (wn := (ws_X7_item cI cJ cB a0 a_kind a_left a_right a_many a_bits a_rows a_table a_roots a_moved a_out a_above a_below a_row a_point a_pointRows a_pointSorts a_text a_sum thrown used rooted size outSize points takenOut great (at_ + 1) fault open_ wrong by_ sort variable_ pointCount text sum_)) F hK hP hD hS 0 22 rfl inW_X7 wm_1114 tyX7_ok nmX7 rfl rfl (by decide) rfl rfl (Nat.le_of_ble_eq_true rfl) rfl dX7_item_133 (fun H locs hP hD hS => ?_)
    refine lv_aload_n hx hb dX7_item_136 rfl (lv_at hl 1 rfl) ?_
    obtain ⟨z137, hz137, h⟩ := o_b h
    refine k_v (wn := (ws_X7_item cI cJ cB a0 a_kind a_left a_right a_many a_bits a_rows a_table a_roots a_moved a_out a_above a_below a_row a_point a_pointRows a_pointSorts a_text a_sum thrown used rooted size outSize points takenOut great (at_ + 1) fault open_ wrong by_ sort variable_ pointCount text sum_)) (As := []) (rest := []) F hNw hK hP hD hS hA (c_X7_peek l D cI cJ cB a0 a_kind a_left a_right a_many a_bits a_rows a_table a_roots a_moved a_out a_above a_below a_row a_sum a_point a_pointRows a_pointSorts a_text _ thrown used rooted size outSize points takenOut great (at_ + 1) fault open_ wrong by_ sort variable_ pointCount text N hz137) wm_1223 cv_X7_peek [0, 1] [2] [1, 2, 0] (⟨rfl, rfl, rfl, by decide, rfl⟩ : Ix [0, 1] [2] [1, 2, 0] 3) rfl (hN_of 1 3 (by decide +kernel) rfl (by decide +kernel) rfl) rfl rfl rfl rfl ⟨rfl, rfl, by decide, by decide⟩ hl.1 rfl (Nat.le_of_ble_eq_true rfl) ⟨Nat.zero_le _, Nat.zero_le _⟩ dX7_item_137 (fun H locs hP hD hS => ?_)
    obtain ⟨z140, hz140, h⟩ := o_b h
    refine k_s (wn := (ws_X7_item cI cJ cB a0 a_kind a_left a_right a_many a_bits a_rows a_table a_roots a_moved a_out a_above a_below a_row a_point a_pointRows a_pointSorts a_text a_sum thrown used rooted size outSize points takenOut great (at_ + 1) fault open_ wrong by_ sort variable_ pointCount text sum_)) (As := [.int z137]) (rest := []) F hNw hK hP hD hS hA (c_X7_isDigit l D cI cJ cB _ z137 N hz140) wm_1247 cs_X7_isDigit [] [0, 1, 2] [0, 1, 2] (⟨rfl, rfl, rfl, by decide, rfl⟩ : Ix [] [0, 1, 2] [0, 1, 2] 3) rfl (hN_of 3 3 (by decide +kernel) rfl (by decide +kernel) rfl) rfl ⟨rfl, rfl, by decide, by decide⟩ hl.1 rfl (Nat.le_of_ble_eq_true rfl) ⟨Nat.zero_le _, Nat.zero_le _⟩ dX7_item_140 (fun H locs hP hD hS => ?_)
    refine lv_if_eq (tgt := 155) hx hb dX7_item_143 (by decide) (fun c143 => ?_) (fun c143 => ?_)
    · have h := o_t c143 h
      exact w_X7_item_155 CX hK hsz (at_ + 1) fault wrong sum_ _ _ _ h hP hD hS (lv_sub hl [1] rfl)
    · have h := o_f c143 h
      refine lv_aload_n hx hb dX7_item_146 rfl (lv_at hl 1 rfl) ?_
      obtain ⟨z147, hz147, h⟩ := o_b h
      refine k_v (wn := (ws_X7_item cI cJ cB a0 a_kind a_left a_right a_many a_bits a_rows a_table a_roots a_moved a_out a_above a_below a_row a_point a_pointRows a_pointSorts a_text a_sum thrown used rooted size outSize points takenOut great (at_ + 1) fault open_ wrong by_ sort variable_ pointCount text sum_)) (As := []) (rest := []) F hNw hK hP hD hS hA (c_X7_peek l D cI cJ cB a0 a_kind a_left a_right a_many a_bits a_rows a_table a_roots a_moved a_out a_above a_below a_row a_sum a_point a_pointRows a_pointSorts a_text _ thrown used rooted size outSize points takenOut great (at_ + 1) fault open_ wrong by_ sort variable_ pointCount text N hz147) wm_1223 cv_X7_peek [0, 1] [2] [1, 2, 0] (⟨rfl, rfl, rfl, by decide, rfl⟩ : Ix [0, 1] [2] [1, 2, 0] 3) rfl (hN_of 1 3 (by decide +kernel) rfl (by decide +kernel) rfl) rfl rfl rfl rfl ⟨rfl, rfl, by decide, by decide⟩ hl.1 rfl (Nat.le_of_ble_eq_true rfl) ⟨Nat.zero_le _, Nat.zero_le _⟩ dX7_item_147 (fun H locs hP hD hS => ?_)
      refine lv_bipush (v := 48) hx hb dX7_item_150 (by decide) ?_
      refine lv_icmp_ne (tgt := 162) hx hb dX7_item_152 (by decide) (fun c152 => ?_) (fun c152 => ?_)
      · have h := o_f c152 h
        refine lv_aload_n hx hb dX7_item_162 rfl (lv_at hl 1 rfl) ?_
        obtain ⟨z163, hz163, h⟩ := o_b h
        refine k_v (wn := (ws_X7_item cI cJ cB a0 a_kind a_left a_right a_many a_bits a_rows a_table a_roots a_moved a_out a_above a_below a_row a_point a_pointRows a_pointSorts a_text a_sum thrown used rooted size outSize points takenOut great (at_ + 1) fault open_ wrong by_ sort variable_ pointCount text sum_)) (As := []) (rest := []) F hNw hK hP hD hS hA (c_X7_peek l D cI cJ cB a0 a_kind a_left a_right a_many a_bits a_rows a_table a_roots a_moved a_out a_above a_below a_row a_sum a_point a_pointRows a_pointSorts a_text _ thrown used rooted size outSize points takenOut great (at_ + 1) fault open_ wrong by_ sort variable_ pointCount text N hz163) wm_1223 cv_X7_peek [0, 1] [2] [1, 2, 0] (⟨rfl, rfl, rfl, by decide, rfl⟩ : Ix [0, 1] [2] [1, 2, 0] 3) rfl (hN_of 1 3 (by decide +kernel) rfl (by decide +kernel) rfl) rfl rfl rfl rfl ⟨rfl, rfl, by decide, by decide⟩ hl.1 rfl (Nat.le_of_ble_eq_true rfl) ⟨Nat.zero_le _, Nat.zero_le _⟩ dX7_item_163 (fun H locs hP hD hS => ?_)
        refine lv_bipush (v := 48) hx hb dX7_item_166 (by decide) ?_
        refine lv_isub hx hb dX7_item_168 ?_
        refine lv_i2l hx hb dX7_item_169 rfl ?_
        refine lv_lstore (lv' := [(7, .long ((z163 - 48).toInt64)), (0, .ref a0), (1, .long y1), (4, .long y4)]) hx hb dX7_item_170 hl (by decide) rfl (fun ls hl => ?_)
        refine lv_aload_n hx hb dX7_item_172 rfl (lv_at hl 1 rfl) ?_
        refine lv_dup hx hb dX7_item_173 rfl ?_
        refine r_get F hK hP 0 22 rfl inW_X7 wm_1114 rfl (by decide) rfl dX7_item_174 ?_
        refine lv_iconst (v := 1) hx hb dX7_item_177 (by decide) ?_
        refine lv_iadd hx hb dX7_item_178 ?_
        refine r_put (wn := (ws_X7_item cI cJ cB a0 a_kind a_left a_right a_many a_bits a_rows a_table a_roots a_moved a_out a_above a_below a_row a_point a_pointRows a_pointSorts a_text a_sum thrown used rooted size outSize points takenOut great ((at_ + 1) + 1) fault open_ wrong by_ sort variable_ pointCount text sum_)) F hK hP hD hS 0 22 rfl inW_X7 wm_1114 tyX7_ok nmX7 rfl rfl (by decide) rfl rfl (Nat.le_of_ble_eq_true rfl) rfl dX7_item_179 (fun H locs hP hD hS => ?_)
        refine lv_lload hx hb dX7_item_182 (lv_at hl 0 rfl) ?_
        refine lv_lconst (v := 1) hx hb dX7_item_184 (by decide) ?_
        refine W.lcmp hx hb dX7_item_185 ?_
        refine lv_if_ne (tgt := 241) hx hb dX7_item_186 (by decide) (fun c186 => ?_) (fun c186 => ?_)
        · have h := o_f c186 h
          exact w_X7_item_241 CX hK hsz ((at_ + 1) + 1) fault wrong sum_ y1 y4 ((z163 - 48).toInt64) _ _ _ h hP hD hS (lv_sub hl [1, 2, 3, 0] rfl)
        · have h := o_t c186 h
          refine lv_aload_n hx hb dX7_item_189 rfl (lv_at hl 1 rfl) ?_
          obtain ⟨z190, hz190, h⟩ := o_b h
          refine k_v (wn := (ws_X7_item cI cJ cB a0 a_kind a_left a_right a_many a_bits a_rows a_table a_roots a_moved a_out a_above a_below a_row a_point a_pointRows a_pointSorts a_text a_sum thrown used rooted size outSize points takenOut great ((at_ + 1) + 1) fault open_ wrong by_ sort variable_ pointCount text sum_)) (As := []) (rest := []) F hNw hK hP hD hS hA (c_X7_peek l D cI cJ cB a0 a_kind a_left a_right a_many a_bits a_rows a_table a_roots a_moved a_out a_above a_below a_row a_sum a_point a_pointRows a_pointSorts a_text _ thrown used rooted size outSize points takenOut great ((at_ + 1) + 1) fault open_ wrong by_ sort variable_ pointCount text N hz190) wm_1223 cv_X7_peek [0, 1] [2] [1, 2, 0] (⟨rfl, rfl, rfl, by decide, rfl⟩ : Ix [0, 1] [2] [1, 2, 0] 3) rfl (hN_of 1 3 (by decide +kernel) rfl (by decide +kernel) rfl) rfl rfl rfl rfl ⟨rfl, rfl, by decide, by decide⟩ hl.1 rfl (Nat.le_of_ble_eq_true rfl) ⟨Nat.zero_le _, Nat.zero_le _⟩ dX7_item_190 (fun H locs hP hD hS => ?_)
          refine lv_bipush (v := 48) hx hb dX7_item_193 (by decide) ?_
          refine lv_icmp_eq (tgt := 216) hx hb dX7_item_195 (by decide) (fun c195 => ?_) (fun c195 => ?_)
          · have h := o_t c195 h
            exact w_X7_item_216 CX hK hsz ((at_ + 1) + 1) fault wrong sum_ y1 y4 _ _ _ h hP hD hS (lv_sub hl [1, 2, 3] rfl)
          · have h := o_f c195 h
            refine lv_aload_n hx hb dX7_item_198 rfl (lv_at hl 1 rfl) ?_
            obtain ⟨z199, hz199, h⟩ := o_b h
            refine k_v (wn := (ws_X7_item cI cJ cB a0 a_kind a_left a_right a_many a_bits a_rows a_table a_roots a_moved a_out a_above a_below a_row a_point a_pointRows a_pointSorts a_text a_sum thrown used rooted size outSize points takenOut great ((at_ + 1) + 1) fault open_ wrong by_ sort variable_ pointCount text sum_)) (As := []) (rest := []) F hNw hK hP hD hS hA (c_X7_peek l D cI cJ cB a0 a_kind a_left a_right a_many a_bits a_rows a_table a_roots a_moved a_out a_above a_below a_row a_sum a_point a_pointRows a_pointSorts a_text _ thrown used rooted size outSize points takenOut great ((at_ + 1) + 1) fault open_ wrong by_ sort variable_ pointCount text N hz199) wm_1223 cv_X7_peek [0, 1] [2] [1, 2, 0] (⟨rfl, rfl, rfl, by decide, rfl⟩ : Ix [0, 1] [2] [1, 2, 0] 3) rfl (hN_of 1 3 (by decide +kernel) rfl (by decide +kernel) rfl) rfl rfl rfl rfl ⟨rfl, rfl, by decide, by decide⟩ hl.1 rfl (Nat.le_of_ble_eq_true rfl) ⟨Nat.zero_le _, Nat.zero_le _⟩ dX7_item_199 (fun H locs hP hD hS => ?_)
            refine lv_bipush (v := 49) hx hb dX7_item_202 (by decide) ?_
            refine lv_icmp_eq (tgt := 216) hx hb dX7_item_204 (by decide) (fun c204 => ?_) (fun c204 => ?_)
            · have h := o_t c204 h
              exact w_X7_item_216 CX hK hsz ((at_ + 1) + 1) fault wrong sum_ y1 y4 _ _ _ h hP hD hS (lv_sub hl [1, 2, 3] rfl)
            · have h := o_f c204 h
              refine lv_aload_n hx hb dX7_item_207 rfl (lv_at hl 1 rfl) ?_
              obtain ⟨z208, hz208, h⟩ := o_b h
              refine k_v (wn := (ws_X7_item cI cJ cB a0 a_kind a_left a_right a_many a_bits a_rows a_table a_roots a_moved a_out a_above a_below a_row a_point a_pointRows a_pointSorts a_text a_sum thrown used rooted size outSize points takenOut great ((at_ + 1) + 1) fault open_ wrong by_ sort variable_ pointCount text sum_)) (As := []) (rest := []) F hNw hK hP hD hS hA (c_X7_peek l D cI cJ cB a0 a_kind a_left a_right a_many a_bits a_rows a_table a_roots a_moved a_out a_above a_below a_row a_sum a_point a_pointRows a_pointSorts a_text _ thrown used rooted size outSize points takenOut great ((at_ + 1) + 1) fault open_ wrong by_ sort variable_ pointCount text N hz208) wm_1223 cv_X7_peek [0, 1] [2] [1, 2, 0] (⟨rfl, rfl, rfl, by decide, rfl⟩ : Ix [0, 1] [2] [1, 2, 0] 3) rfl (hN_of 1 3 (by decide +kernel) rfl (by decide +kernel) rfl) rfl rfl rfl rfl ⟨rfl, rfl, by decide, by decide⟩ hl.1 rfl (Nat.le_of_ble_eq_true rfl) ⟨Nat.zero_le _, Nat.zero_le _⟩ dX7_item_208 (fun H locs hP hD hS => ?_)
              refine lv_bipush (v := 50) hx hb dX7_item_211 (by decide) ?_
              refine lv_icmp_ne (tgt := 241) hx hb dX7_item_213 (by decide) (fun c213 => ?_) (fun c213 => ?_)
              · have h := o_f c213 h
                exact w_X7_item_241 CX hK hsz ((at_ + 1) + 1) fault wrong sum_ y1 y4 ((z163 - 48).toInt64) _ _ _ h hP hD hS (lv_sub hl [1, 2, 3, 0] rfl)
              · have h := o_t c213 h
                exact w_X7_item_216 CX hK hsz ((at_ + 1) + 1) fault wrong sum_ y1 y4 _ _ _ h hP hD hS (lv_sub hl [1, 2, 3] rfl)
      · have h := o_t c152 h
        exact w_X7_item_155 CX hK hsz (at_ + 1) fault wrong sum_ _ _ _ h hP hD hS (lv_sub hl [1] rfl)
set_option maxHeartbeats 4000000 in
set_option maxRecDepth 100000 in
theorem w_X7_item_64 (CX : Cx p m c cX7_item 11 s args x0 RX7 meth none) (hK : va_K D vwCl (ty0 cI cJ cB) s) (hsz : s.heap.size = sz) : ∀ (n : Nat), ∀ (at_ : Int32) (fault : Int32) (wrong : Int32) (sum_ : Nat → Int64) (y1 : Int64) (y4 : Int64) (y6 : Int32) (H : Heap) (locs : List Loc) (ls : Array Slot), f_X7_item_64 N n size at_ fault wrong text sum_ y1 y4 y6 = some z → va_P D vwCl (ws_X7_item cI cJ cB a0 a_kind a_left a_right a_many a_bits a_rows a_table a_roots a_moved a_out a_above a_below a_row a_point a_pointRows a_pointSorts a_text a_sum thrown used rooted size outSize points takenOut great at_ fault open_ wrong by_ sort variable_ pointCount text sum_) H → va_D (va_A ws0 sz) (ws_X7_item cI cJ cB a0 a_kind a_left a_right a_many a_bits a_rows a_table a_roots a_moved a_out a_above a_below a_row a_point a_pointRows a_pointSorts a_text a_sum thrown used rooted size outSize points takenOut great at_ fault open_ wrong by_ sort variable_ pointCount text sum_) → va_S (va_A ws0 sz) s.heap H locs → lv_has ls 11 [(0, .ref a0), (1, .long y1), (4, .long y4), (6, .int y6)] → W p l e rm_X7_item s m args below meth c H locs 0 0 (MQ below (gQ D sz ws0 (ws_X7_item cI cJ cB a0 a_kind a_left a_right a_many a_bits a_rows a_table a_roots a_moved a_out a_above a_below a_row a_point a_pointRows a_pointSorts a_text a_sum thrown used rooted size outSize points takenOut great z.1 z.2.1 open_ z.2.2.1 by_ sort variable_ pointCount text z.2.2.2) none) args s 0 0 (va_A ws0 sz)) (F0 m 64 ls []) := by
  obtain ⟨F, hr, hlk, hNw⟩ := id CX
  have hx := F.1
  have hb := F.2.1
  have hown := F.2.2.2.1
  have hA : ∀ q, s.heap.size ≤ q → va_A ws0 sz q := fun q hq => Or.inr (hsz ▸ hq)
  intro n
  induction n with
  | zero =>
    intro at_ fault wrong sum_ y1 y4 y6 H locs ls h
    cases h
  | succ n ih =>
    intro at_ fault wrong sum_ y1 y4 y6 H locs ls h hP hD hS hl
    unfold f_X7_item_64 at h
    refine lv_aload_n hx hb dX7_item_64 rfl (lv_at hl 0 rfl) ?_
    obtain ⟨z65, hz65, h⟩ := o_b h
    refine k_v (wn := (ws_X7_item cI cJ cB a0 a_kind a_left a_right a_many a_bits a_rows a_table a_roots a_moved a_out a_above a_below a_row a_point a_pointRows a_pointSorts a_text a_sum thrown used rooted size outSize points takenOut great at_ fault open_ wrong by_ sort variable_ pointCount text sum_)) (As := []) (rest := []) F hNw hK hP hD hS hA (c_X7_peek l D cI cJ cB a0 a_kind a_left a_right a_many a_bits a_rows a_table a_roots a_moved a_out a_above a_below a_row a_sum a_point a_pointRows a_pointSorts a_text _ thrown used rooted size outSize points takenOut great at_ fault open_ wrong by_ sort variable_ pointCount text N hz65) wm_1223 cv_X7_peek [0, 1] [2] [1, 2, 0] (⟨rfl, rfl, rfl, by decide, rfl⟩ : Ix [0, 1] [2] [1, 2, 0] 3) rfl (hN_of 1 3 (by decide +kernel) rfl (by decide +kernel) rfl) rfl rfl rfl rfl ⟨rfl, rfl, by decide, by decide⟩ hl.1 rfl (Nat.le_of_ble_eq_true rfl) ⟨Nat.zero_le _, Nat.zero_le _⟩ dX7_item_65 (fun H locs hP hD hS => ?_)
    obtain ⟨z68, hz68, h⟩ := o_b h
    refine k_s (wn := (ws_X7_item cI cJ cB a0 a_kind a_left a_right a_many a_bits a_rows a_table a_roots a_moved a_out a_above a_below a_row a_point a_pointRows a_pointSorts a_text a_sum thrown used rooted size outSize points takenOut great at_ fault open_ wrong by_ sort variable_ pointCount text sum_)) (As := [.int z65]) (rest := []) F hNw hK hP hD hS hA (c_X7_isDigit l D cI cJ cB _ z65 N hz68) wm_1247 cs_X7_isDigit [] [0, 1, 2] [0, 1, 2] (⟨rfl, rfl, rfl, by decide, rfl⟩ : Ix [] [0, 1, 2] [0, 1, 2] 3) rfl (hN_of 3 3 (by decide +kernel) rfl (by decide +kernel) rfl) rfl ⟨rfl, rfl, by decide, by decide⟩ hl.1 rfl (Nat.le_of_ble_eq_true rfl) ⟨Nat.zero_le _, Nat.zero_le _⟩ dX7_item_68 (fun H locs hP hD hS => ?_)
    refine lv_if_eq (tgt := 114) hx hb dX7_item_71 (by decide) (fun c71 => ?_) (fun c71 => ?_)
    · have h := o_t c71 h
      exact w_X7_item_114 CX hK hsz at_ fault wrong sum_ y1 y4 _ _ _ h hP hD hS (lv_sub hl [0, 1, 2] rfl)
    · have h := o_f c71 h
      refine lv_iload hx hb dX7_item_74 (lv_at hl 3 rfl) ?_
      refine lv_iconst (v := 4) hx hb dX7_item_76 (by decide) ?_
      refine lv_icmp_ge (tgt := 114) hx hb dX7_item_77 (by decide) (fun c77 => ?_) (fun c77 => ?_)
      · have h := o_t c77 h
        exact w_X7_item_114 CX hK hsz at_ fault wrong sum_ y1 y4 _ _ _ h hP hD hS (lv_sub hl [0, 1, 2] rfl)
      · have h := o_f c77 h
        refine lv_ldc2 (v := 10) hx hb hown (F.2.2.2.2 _ (q_in wm_1254)) dX7_item_80 ?_
        refine lv_lload hx hb dX7_item_83 (lv_at hl 2 rfl) ?_
        refine lv_lmul hx hb dX7_item_85 ?_
        refine lv_aload_n hx hb dX7_item_86 rfl (lv_at hl 0 rfl) ?_
        obtain ⟨z87, hz87, h⟩ := o_b h
        refine k_v (wn := (ws_X7_item cI cJ cB a0 a_kind a_left a_right a_many a_bits a_rows a_table a_roots a_moved a_out a_above a_below a_row a_point a_pointRows a_pointSorts a_text a_sum thrown used rooted size outSize points takenOut great at_ fault open_ wrong by_ sort variable_ pointCount text sum_)) (As := []) (rest := [.long (10 * y4)]) F hNw hK hP hD hS hA (c_X7_peek l D cI cJ cB a0 a_kind a_left a_right a_many a_bits a_rows a_table a_roots a_moved a_out a_above a_below a_row a_sum a_point a_pointRows a_pointSorts a_text _ thrown used rooted size outSize points takenOut great at_ fault open_ wrong by_ sort variable_ pointCount text N hz87) wm_1223 cv_X7_peek [0, 1] [2] [1, 2, 0] (⟨rfl, rfl, rfl, by decide, rfl⟩ : Ix [0, 1] [2] [1, 2, 0] 3) rfl (hN_of 1 3 (by decide +kernel) rfl (by decide +kernel) rfl) rfl rfl rfl rfl ⟨rfl, rfl, by decide, by decide⟩ hl.1 rfl (Nat.le_of_ble_eq_true rfl) ⟨Nat.zero_le _, Nat.zero_le _⟩ dX7_item_87 (fun H locs hP hD hS => ?_)
        refine lv_i2l hx hb dX7_item_90 rfl ?_
        refine lv_ladd hx hb dX7_item_91 ?_
        refine lv_ldc2 (v := 48) hx hb hown (F.2.2.2.2 _ (q_in wm_1255)) dX7_item_92 ?_
        refine lv_lsub hx hb dX7_item_95 ?_
        refine lv_lstore (lv' := [(4, .long (((10 * y4) + z87.toInt64) - 48)), (0, .ref a0), (1, .long y1), (6, .int y6)]) hx hb dX7_item_96 hl (by decide) rfl (fun ls hl => ?_)
        refine lv_iinc (v := y6 + 1) (lv' := [(6, .int (y6 + 1)), (4, .long (((10 * y4) + z87.toInt64) - 48)), (0, .ref a0), (1, .long y1)]) hx hb dX7_item_98 hl (k := 3) rfl rfl (by decide) rfl (fun ls hl => ?_)
        refine lv_aload_n hx hb dX7_item_101 rfl (lv_at hl 2 rfl) ?_
        refine lv_dup hx hb dX7_item_102 rfl ?_
        refine r_get F hK hP 0 22 rfl inW_X7 wm_1114 rfl (by decide) rfl dX7_item_103 ?_
        refine lv_iconst (v := 1) hx hb dX7_item_106 (by decide) ?_
        refine lv_iadd hx hb dX7_item_107 ?_
        refine r_put (wn := (ws_X7_item cI cJ cB a0 a_kind a_left a_right a_many a_bits a_rows a_table a_roots a_moved a_out a_above a_below a_row a_point a_pointRows a_pointSorts a_text a_sum thrown used rooted size outSize points takenOut great (at_ + 1) fault open_ wrong by_ sort variable_ pointCount text sum_)) F hK hP hD hS 0 22 rfl inW_X7 wm_1114 tyX7_ok nmX7 rfl rfl (by decide) rfl rfl (Nat.le_of_ble_eq_true rfl) rfl dX7_item_108 (fun H locs hP hD hS => ?_)
        refine lv_goto (tgt := 64) hx hb dX7_item_111 (by decide) ?_
        exact ih (at_ + 1) fault wrong sum_ y1 (((10 * y4) + z87.toInt64) - 48) (y6 + 1) _ _ _ h hP hD hS (lv_sub hl [2, 3, 1, 0] rfl)
end G_X7_item
set_option maxHeartbeats 4000000 in
set_option maxRecDepth 100000 in
theorem c_X7_item (l : Launch) (D : va_G) (cI cJ cB : ClassId) (a0 a_kind a_left a_right a_many a_bits a_rows a_table a_roots a_moved a_out a_above a_below a_row a_point a_pointRows a_pointSorts a_text a_sum : Nat) (sz : Nat) (thrown : Int32) (used : Int32) (rooted : Int32) (size : Int32) (outSize : Int32) (points : Int32) (takenOut : Int32) (great : Int32) (at_ : Int32) (fault : Int32) (open_ : Int32) (wrong : Int32) (by_ : Int64) (sort : Int32) (variable_ : Int32) (pointCount : Int32) (text : Nat → Int32) (sum_ : Nat → Int64) (x1 : Int64) (N : Nat) {z : (Int32) × (Int32) × (Int32) × (Nat → Int64)} (h : f_X7_item N size at_ fault wrong text sum_ x1 = some z) : Mg l yX7_item cX7_item 11 none rm_X7_item D (ty0 cI cJ cB) [.ref a0, .long x1] sz (ws_X7_item cI cJ cB a0 a_kind a_left a_right a_many a_bits a_rows a_table a_roots a_moved a_out a_above a_below a_row a_point a_pointRows a_pointSorts a_text a_sum thrown used rooted size outSize points takenOut great at_ fault open_ wrong by_ sort variable_ pointCount text sum_) none (ws_X7_item cI cJ cB a0 a_kind a_left a_right a_many a_bits a_rows a_table a_roots a_moved a_out a_above a_below a_row a_point a_pointRows a_pointSorts a_text a_sum thrown used rooted size outSize points takenOut great z.1 z.2.1 open_ z.2.2.1 by_ sort variable_ pointCount text z.2.2.2) := by
  refine Mg.of (by decide) (Nat.le_of_ble_eq_true rfl) ?_
  intro p e s m below meth c CX hK hsz hP hD ls hl
  have CX : Cx p m c cX7_item 11 s ([.ref a0, .long x1] : List Value).toArray (Cond.code yX7_item cX7_item 11 none) RX7 meth none := CX
  obtain ⟨F, hr, hlk, hNw⟩ := id CX
  have hx := F.1
  have hb := F.2.1
  have hown := F.2.2.2.1
  have hl : lv_has ls 11 [(0, .ref a0), (1, .long x1)] := hl
  have hS : va_S (va_A (ws_X7_item cI cJ cB a0 a_kind a_left a_right a_many a_bits a_rows a_table a_roots a_moved a_out a_above a_below a_row a_point a_pointRows a_pointSorts a_text a_sum thrown used rooted size outSize points takenOut great at_ fault open_ wrong by_ sort variable_ pointCount text sum_) sz) s.heap s.heap [] := va_S.rf
  have hA : ∀ q, s.heap.size ≤ q → va_A (ws_X7_item cI cJ cB a0 a_kind a_left a_right a_many a_bits a_rows a_table a_roots a_moved a_out a_above a_below a_row a_point a_pointRows a_pointSorts a_text a_sum thrown used rooted size outSize points takenOut great at_ fault open_ wrong by_ sort variable_ pointCount text sum_) sz q := fun q hq => Or.inr (hsz ▸ hq)
  unfold f_X7_item at h
  refine lv_aload_n hx hb dX7_item_0 rfl (lv_at hl 0 rfl) ?_
  obtain ⟨z1, hz1, h⟩ := o_b h
  refine k_v (wn := (ws_X7_item cI cJ cB a0 a_kind a_left a_right a_many a_bits a_rows a_table a_roots a_moved a_out a_above a_below a_row a_point a_pointRows a_pointSorts a_text a_sum thrown used rooted size outSize points takenOut great z1 fault open_ wrong by_ sort variable_ pointCount text sum_)) (As := []) (rest := []) F hNw hK hP hD hS hA (c_X7_blanks l D cI cJ cB a0 a_kind a_left a_right a_many a_bits a_rows a_table a_roots a_moved a_out a_above a_below a_row a_sum a_point a_pointRows a_pointSorts a_text _ thrown used rooted size outSize points takenOut great at_ fault open_ wrong by_ sort variable_ pointCount text N hz1) wm_1219 cv_X7_blanks [0, 1] [2] [1, 2, 0] (⟨rfl, rfl, rfl, by decide, rfl⟩ : Ix [0, 1] [2] [1, 2, 0] 3) rfl (hN_of 1 3 (by decide +kernel) rfl (by decide +kernel) rfl) rfl rfl rfl rfl ⟨rfl, rfl, by decide, by decide⟩ hl.1 rfl (Nat.le_of_ble_eq_true rfl) ⟨Nat.zero_le _, Nat.zero_le _⟩ dX7_item_1 (fun H locs hP hD hS => ?_)
  refine lv_aload_n hx hb dX7_item_4 rfl (lv_at hl 0 rfl) ?_
  obtain ⟨z5, hz5, h⟩ := o_b h
  refine k_v (wn := (ws_X7_item cI cJ cB a0 a_kind a_left a_right a_many a_bits a_rows a_table a_roots a_moved a_out a_above a_below a_row a_point a_pointRows a_pointSorts a_text a_sum thrown used rooted size outSize points takenOut great z1 fault open_ wrong by_ sort variable_ pointCount text sum_)) (As := []) (rest := []) F hNw hK hP hD hS hA (c_X7_peek l D cI cJ cB a0 a_kind a_left a_right a_many a_bits a_rows a_table a_roots a_moved a_out a_above a_below a_row a_sum a_point a_pointRows a_pointSorts a_text _ thrown used rooted size outSize points takenOut great z1 fault open_ wrong by_ sort variable_ pointCount text N hz5) wm_1223 cv_X7_peek [0, 1] [2] [1, 2, 0] (⟨rfl, rfl, rfl, by decide, rfl⟩ : Ix [0, 1] [2] [1, 2, 0] 3) rfl (hN_of 1 3 (by decide +kernel) rfl (by decide +kernel) rfl) rfl rfl rfl rfl ⟨rfl, rfl, by decide, by decide⟩ hl.1 rfl (Nat.le_of_ble_eq_true rfl) ⟨Nat.zero_le _, Nat.zero_le _⟩ dX7_item_5 (fun H locs hP hD hS => ?_)
  refine lv_istore_n (lv' := [(3, .int z5), (0, .ref a0), (1, .long x1)]) hx hb dX7_item_8 rfl hl (by decide) rfl (fun ls hl => ?_)
  refine lv_iload_n hx hb dX7_item_9 rfl (lv_at hl 0 rfl) ?_
  obtain ⟨z10, hz10, h⟩ := o_b h
  refine k_s (wn := (ws_X7_item cI cJ cB a0 a_kind a_left a_right a_many a_bits a_rows a_table a_roots a_moved a_out a_above a_below a_row a_point a_pointRows a_pointSorts a_text a_sum thrown used rooted size outSize points takenOut great z1 fault open_ wrong by_ sort variable_ pointCount text sum_)) (As := [.int z5]) (rest := []) F hNw hK hP hD hS hA (c_X7_isVariable l D cI cJ cB _ z5 N hz10) wm_1243 cs_X7_isVariable [] [0, 1, 2] [0, 1, 2] (⟨rfl, rfl, rfl, by decide, rfl⟩ : Ix [] [0, 1, 2] [0, 1, 2] 3) rfl (hN_of 3 3 (by decide +kernel) rfl (by decide +kernel) rfl) rfl ⟨rfl, rfl, by decide, by decide⟩ hl.1 rfl (Nat.le_of_ble_eq_true rfl) ⟨Nat.zero_le _, Nat.zero_le _⟩ dX7_item_10 (fun H locs hP hD hS => ?_)
  refine lv_if_eq (tgt := 44) hx hb dX7_item_13 (by decide) (fun c13 => ?_) (fun c13 => ?_)
  · have h := o_t c13 h
    refine lv_iload_n hx hb dX7_item_44 rfl (lv_at hl 0 rfl) ?_
    obtain ⟨z45, hz45, h⟩ := o_b h
    refine k_s (wn := (ws_X7_item cI cJ cB a0 a_kind a_left a_right a_many a_bits a_rows a_table a_roots a_moved a_out a_above a_below a_row a_point a_pointRows a_pointSorts a_text a_sum thrown used rooted size outSize points takenOut great z1 fault open_ wrong by_ sort variable_ pointCount text sum_)) (As := [.int z5]) (rest := []) F hNw hK hP hD hS hA (c_X7_isDigit l D cI cJ cB _ z5 N hz45) wm_1247 cs_X7_isDigit [] [0, 1, 2] [0, 1, 2] (⟨rfl, rfl, rfl, by decide, rfl⟩ : Ix [] [0, 1, 2] [0, 1, 2] 3) rfl (hN_of 3 3 (by decide +kernel) rfl (by decide +kernel) rfl) rfl ⟨rfl, rfl, by decide, by decide⟩ hl.1 rfl (Nat.le_of_ble_eq_true rfl) ⟨Nat.zero_le _, Nat.zero_le _⟩ dX7_item_45 (fun H locs hP hD hS => ?_)
    refine lv_if_ne (tgt := 58) hx hb dX7_item_48 (by decide) (fun c48 => ?_) (fun c48 => ?_)
    · have h := o_f c48 h
      refine lv_lconst (v := 0) hx hb dX7_item_58 (by decide) ?_
      refine lv_lstore (lv' := [(4, .long 0), (3, .int z5), (0, .ref a0), (1, .long x1)]) hx hb dX7_item_59 hl (by decide) rfl (fun ls hl => ?_)
      refine lv_iconst (v := 0) hx hb dX7_item_61 (by decide) ?_
      refine lv_istore (lv' := [(6, .int 0), (4, .long 0), (3, .int z5), (0, .ref a0), (1, .long x1)]) hx hb dX7_item_62 hl (by decide) rfl (fun ls hl => ?_)
      exact w_X7_item_64 CX hK hsz N z1 fault wrong sum_ x1 0 0 _ _ _ h hP hD hS (lv_sub hl [3, 4, 1, 0] rfl)
    · have h := o_t c48 h
      refine lv_aload_n hx hb dX7_item_51 rfl (lv_at hl 1 rfl) ?_
      obtain ⟨z52, hz52, h⟩ := o_b h
      refine k_v (wn := (ws_X7_item cI cJ cB a0 a_kind a_left a_right a_many a_bits a_rows a_table a_roots a_moved a_out a_above a_below a_row a_point a_pointRows a_pointSorts a_text a_sum thrown used rooted size outSize points takenOut great z1 z52.2.1 open_ z52.2.2 by_ sort variable_ pointCount text sum_)) (As := []) (rest := []) F hNw hK hP hD hS hA (c_X7_fail l D cI cJ cB a0 a_kind a_left a_right a_many a_bits a_rows a_table a_roots a_moved a_text a_out a_above a_below a_row a_sum a_point a_pointRows a_pointSorts _ thrown used rooted size outSize points takenOut great z1 fault open_ wrong by_ sort variable_ pointCount N hz52) wm_1250 cv_X7_fail [0] [1, 2] [2, 0, 1] (⟨rfl, rfl, rfl, by decide, rfl⟩ : Ix [0] [1, 2] [2, 0, 1] 3) rfl (hN_of 2 3 (by decide +kernel) rfl (by decide +kernel) rfl) rfl rfl rfl rfl ⟨rfl, rfl, by decide, by decide⟩ hl.1 rfl (Nat.le_of_ble_eq_true rfl) ⟨Nat.zero_le _, Nat.zero_le _⟩ dX7_item_52 (fun H locs hP hD hS => ?_)
      refine lv_istore (lv' := [(4, .int z52.1), (3, .int z5), (0, .ref a0), (1, .long x1)]) hx hb dX7_item_55 hl (by decide) rfl (fun ls hl => ?_)
      obtain rfl := Option.some.inj h
      exact r_vret F hr hlk dX7_item_57 hsz hP hD hS
  · have h := o_f c13 h
    refine lv_aload_n hx hb dX7_item_16 rfl (lv_at hl 1 rfl) ?_
    refine r_get F hK hP 0 26 rfl inW_X7 wm_1118 rfl (by decide) rfl dX7_item_17 ?_
    refine lv_iload_n hx hb dX7_item_20 rfl (lv_at hl 0 rfl) ?_
    refine lv_bipush (v := 97) hx hb dX7_item_21 (by decide) ?_
    refine lv_isub hx hb dX7_item_23 ?_
    refine lv_dup2_11 hx hb dX7_item_24 rfl rfl ?_
    obtain ⟨hi25, h⟩ := o_ix h
    refine va_lald hx hb hK hP 2 1 rfl rfl hi25 dX7_item_25 ?_
    refine lv_ldc2 (v := 27720) hx hb hown (F.2.2.2.2 _ (q_in wm_1246)) dX7_item_26 ?_
    refine lv_lload_n hx hb dX7_item_29 rfl (lv_at hl 2 rfl) ?_
    refine lv_lmul hx hb dX7_item_30 ?_
    refine lv_ladd hx hb dX7_item_31 ?_
    obtain ⟨hi32, h⟩ := o_ix h
    refine r_last (wn := (ws_X7_item cI cJ cB a0 a_kind a_left a_right a_many a_bits a_rows a_table a_roots a_moved a_out a_above a_below a_row a_point a_pointRows a_pointSorts a_text a_sum thrown used rooted size outSize points takenOut great z1 fault open_ wrong by_ sort variable_ pointCount text (vp_updL sum_ (z5 - 97).toNatClampNeg ((sum_ (z5 - 97).toNatClampNeg) + (27720 * x1))))) F hK hP hD hS 2 1 hi32 rfl rfl rfl dX7_item_32 (fun H locs hP hD hS => ?_)
    refine lv_aload_n hx hb dX7_item_33 rfl (lv_at hl 1 rfl) ?_
    refine lv_dup hx hb dX7_item_34 rfl ?_
    refine r_get F hK hP 0 22 rfl inW_X7 wm_1114 rfl (by decide) rfl dX7_item_35 ?_
    refine lv_iconst (v := 1) hx hb dX7_item_38 (by decide) ?_
    refine lv_iadd hx hb dX7_item_39 ?_
    refine r_put (wn := (ws_X7_item cI cJ cB a0 a_kind a_left a_right a_many a_bits a_rows a_table a_roots a_moved a_out a_above a_below a_row a_point a_pointRows a_pointSorts a_text a_sum thrown used rooted size outSize points takenOut great (z1 + 1) fault open_ wrong by_ sort variable_ pointCount text (vp_updL sum_ (z5 - 97).toNatClampNeg ((sum_ (z5 - 97).toNatClampNeg) + (27720 * x1))))) F hK hP hD hS 0 22 rfl inW_X7 wm_1114 tyX7_ok nmX7 rfl rfl (by decide) rfl rfl (Nat.le_of_ble_eq_true rfl) rfl dX7_item_40 (fun H locs hP hD hS => ?_)
    obtain rfl := Option.some.inj h
    exact r_vret F hr hlk dX7_item_43 hsz hP hD hS
section G_X7_type
abbrev ws_X7_type (cI cJ cB : ClassId) (a0 a_kind a_left a_right a_many a_bits a_rows a_table a_roots a_moved a_out a_above a_below a_row a_sum a_point a_pointRows a_pointSorts a_text : Nat) (thrown : Int32) (used : Int32) (rooted : Int32) (size : Int32) (outSize : Int32) (points : Int32) (takenOut : Int32) (great : Int32) (at_ : Int32) (fault : Int32) (open_ : Int32) (wrong : Int32) (by_ : Int64) (sort : Int32) (variable_ : Int32) (pointCount : Int32) (text : Nat → Int32) : va_W := [(a0, .inr (9, [.int thrown, .ref a_kind, .ref a_left, .ref a_right, .ref a_many, .ref a_bits, .ref a_rows, .ref a_table, .int used, .ref a_roots, .int rooted, .ref a_moved, .ref a_text, .int size, .ref a_out, .int outSize, .ref a_above, .ref a_below, .int points, .int takenOut, .int great, .ref a_row, .int at_, .int fault, .int open_, .int wrong, .ref a_sum, .ref a_point, .long by_, .int sort, .int variable_, .ref a_pointRows, .ref a_pointSorts, .int pointCount])), (a_text, .inl (cB, 240, .inl text))]
abbrev rm_X7_type : Room := { frames := 0, cells := 0, slots := 0, locals := 0 }
def f_X7_type_47 (N : Nat) : Nat → Int32 → Int32 → (Nat → Int32) → Int64 → Int32 → Int32 → Option (Int32 × (Int32) × (Int32) × (Nat → Int32))
  | 0 => fun _ _ _ _ _ _ => none
  | n + 1 => fun thrown size text y1 y3 y4 => ifb (y3 ≤ y4) (some (size, thrown, size, text)) (ix size 240 (f_X7_type_47 N n thrown (size + 1) (upd text size.toNatClampNeg (vp_nar .byte (((y1 >>> ((8 * y4).toInt64 &&& 63)).toInt32).toInt8.toInt32))) y1 y3 (y4 + 1)))
def f_X7_type_32 (N : Nat) (thrown : Int32) (size : Int32) (text : Nat → Int32) (y1 : Int64) (y3 : Int32) (s1 : Int32) : Option (Int32 × (Int32) × (Int32) × (Nat → Int32)) := ifb (s1 ≤ 0) (f_X7_type_47 N N s1 size text y1 y3 0) (some (0, s1, size, text))
def f_X7_type_11 (N : Nat) (thrown : Int32) (size : Int32) (text : Nat → Int32) (y1 : Int64) (y3 : Int32) : Option (Int32 × (Int32) × (Int32) × (Nat → Int32)) := f_X7_type_32 N thrown size text y1 y3 1
def f_X7_type (N : Nat) (thrown : Int32) (size : Int32) (text : Nat → Int32) (x1 : Int64) (x2 : Int32) : Option (Int32 × (Int32) × (Int32) × (Nat → Int32)) := ifb (x2 < 0) (f_X7_type_11 N thrown size text x1 x2) (ifb (x2 ≤ 8) (ifb ((size + x2) ≤ 240) (f_X7_type_32 N thrown size text x1 x2 0) (f_X7_type_32 N thrown size text x1 x2 2)) (f_X7_type_11 N thrown size text x1 x2))
variable {p : Program} {l : Launch} {e : Env} {s : State} {m : MethodId} {below : List Frame} {meth : Method} {c : Code} {args : Array Value} {x0 : Cond} {D : va_G} {cI cJ cB : ClassId} {sz N : Nat} {ws0 : va_W} {a0 a_kind a_left a_right a_many a_bits a_rows a_table a_roots a_moved a_out a_above a_below a_row a_sum a_point a_pointRows a_pointSorts a_text : Nat} {used : Int32} {rooted : Int32} {outSize : Int32} {points : Int32} {takenOut : Int32} {great : Int32} {at_ : Int32} {fault : Int32} {open_ : Int32} {wrong : Int32} {by_ : Int64} {sort : Int32} {variable_ : Int32} {pointCount : Int32} {z : Int32 × (Int32) × (Int32) × (Nat → Int32)}
set_option maxHeartbeats 4000000 in
set_option maxRecDepth 100000 in
theorem w_X7_type_47 (CX : Cx p m c cX7_type 5 s args x0 RX7 meth (some .int)) (hK : va_K D vwCl (ty0 cI cJ cB) s) (hsz : s.heap.size = sz) : ∀ (n : Nat), ∀ (thrown : Int32) (size : Int32) (text : Nat → Int32) (y1 : Int64) (y3 : Int32) (y4 : Int32) (H : Heap) (locs : List Loc) (ls : Array Slot), f_X7_type_47 N n thrown size text y1 y3 y4 = some z → va_P D vwCl (ws_X7_type cI cJ cB a0 a_kind a_left a_right a_many a_bits a_rows a_table a_roots a_moved a_out a_above a_below a_row a_sum a_point a_pointRows a_pointSorts a_text thrown used rooted size outSize points takenOut great at_ fault open_ wrong by_ sort variable_ pointCount text) H → va_D (va_A ws0 sz) (ws_X7_type cI cJ cB a0 a_kind a_left a_right a_many a_bits a_rows a_table a_roots a_moved a_out a_above a_below a_row a_sum a_point a_pointRows a_pointSorts a_text thrown used rooted size outSize points takenOut great at_ fault open_ wrong by_ sort variable_ pointCount text) → va_S (va_A ws0 sz) s.heap H locs → lv_has ls 5 [(0, .ref a0), (1, .long y1), (3, .int y3), (4, .int y4)] → W p l e rm_X7_type s m args below meth c H locs 0 0 (MQ below (gQ D sz ws0 (ws_X7_type cI cJ cB a0 a_kind a_left a_right a_many a_bits a_rows a_table a_roots a_moved a_out a_above a_below a_row a_sum a_point a_pointRows a_pointSorts a_text z.2.1 used rooted z.2.2.1 outSize points takenOut great at_ fault open_ wrong by_ sort variable_ pointCount z.2.2.2) (some (.int z.1))) args s 0 0 (va_A ws0 sz)) (F0 m 47 ls []) := by
  obtain ⟨F, hr, hlk, hNw⟩ := id CX
  have hx := F.1
  have hb := F.2.1
  have hown := F.2.2.2.1
  have hA : ∀ q, s.heap.size ≤ q → va_A ws0 sz q := fun q hq => Or.inr (hsz ▸ hq)
  intro n
  induction n with
  | zero =>
    intro thrown size text y1 y3 y4 H locs ls h
    cases h
  | succ n ih =>
    intro thrown size text y1 y3 y4 H locs ls h hP hD hS hl
    unfold f_X7_type_47 at h
    refine lv_iload hx hb dX7_type_47 (lv_at hl 3 rfl) ?_
    refine lv_iload_n hx hb dX7_type_49 rfl (lv_at hl 2 rfl) ?_
    refine lv_icmp_ge (tgt := 87) hx hb dX7_type_50 (by decide) (fun c50 => ?_) (fun c50 => ?_)
    · have h := o_t c50 h
      refine lv_aload_n hx hb dX7_type_87 rfl (lv_at hl 0 rfl) ?_
      refine r_get F hK hP 0 13 rfl inW_X7 wm_1105 rfl (by decide) rfl dX7_type_88 ?_
      obtain rfl := Option.some.inj h
      exact r_ret (v := size) F hr hlk rfl dX7_type_91 hsz hP hD hS
    · have h := o_f c50 h
      refine lv_aload_n hx hb dX7_type_53 rfl (lv_at hl 0 rfl) ?_
      refine r_get F hK hP 0 12 rfl inW_X7 wm_1104 rfl (by decide) rfl dX7_type_54 ?_
      refine lv_aload_n hx hb dX7_type_57 rfl (lv_at hl 0 rfl) ?_
      refine r_get F hK hP 0 13 rfl inW_X7 wm_1105 rfl (by decide) rfl dX7_type_58 ?_
      refine lv_lload_n hx hb dX7_type_61 rfl (lv_at hl 1 rfl) ?_
      refine lv_bipush (v := 8) hx hb dX7_type_62 (by decide) ?_
      refine lv_iload hx hb dX7_type_64 (lv_at hl 3 rfl) ?_
      refine lv_imul hx hb dX7_type_66 ?_
      refine lv_lshr hx hb dX7_type_67 rfl ?_
      refine lv_l2i hx hb dX7_type_68 rfl ?_
      refine lv_i2b hx hb dX7_type_69 rfl ?_
      obtain ⟨hi70, h⟩ := o_ix h
      refine r_bast (wn := (ws_X7_type cI cJ cB a0 a_kind a_left a_right a_many a_bits a_rows a_table a_roots a_moved a_out a_above a_below a_row a_sum a_point a_pointRows a_pointSorts a_text thrown used rooted size outSize points takenOut great at_ fault open_ wrong by_ sort variable_ pointCount (upd text size.toNatClampNeg (vp_nar .byte (((y1 >>> ((8 * y4).toInt64 &&& 63)).toInt32).toInt8.toInt32))))) F hK hP hD hS 1 2 hi70 rfl rfl rfl dX7_type_70 (fun H locs hP hD hS => ?_)
      refine lv_aload_n hx hb dX7_type_71 rfl (lv_at hl 0 rfl) ?_
      refine lv_dup hx hb dX7_type_72 rfl ?_
      refine r_get F hK hP 0 13 rfl inW_X7 wm_1105 rfl (by decide) rfl dX7_type_73 ?_
      refine lv_iconst (v := 1) hx hb dX7_type_76 (by decide) ?_
      refine lv_iadd hx hb dX7_type_77 ?_
      refine r_put (wn := (ws_X7_type cI cJ cB a0 a_kind a_left a_right a_many a_bits a_rows a_table a_roots a_moved a_out a_above a_below a_row a_sum a_point a_pointRows a_pointSorts a_text thrown used rooted (size + 1) outSize points takenOut great at_ fault open_ wrong by_ sort variable_ pointCount (upd text size.toNatClampNeg (vp_nar .byte (((y1 >>> ((8 * y4).toInt64 &&& 63)).toInt32).toInt8.toInt32))))) F hK hP hD hS 0 13 rfl inW_X7 wm_1105 tyX7_ok nmX7 rfl rfl (by decide) rfl rfl (Nat.le_of_ble_eq_true rfl) rfl dX7_type_78 (fun H locs hP hD hS => ?_)
      refine lv_iinc (v := y4 + 1) (lv' := [(4, .int (y4 + 1)), (0, .ref a0), (1, .long y1), (3, .int y3)]) hx hb dX7_type_81 hl (k := 3) rfl rfl (by decide) rfl (fun ls hl => ?_)
      refine lv_goto (tgt := 47) hx hb dX7_type_84 (by decide) ?_
      exact ih thrown (size + 1) (upd text size.toNatClampNeg (vp_nar .byte (((y1 >>> ((8 * y4).toInt64 &&& 63)).toInt32).toInt8.toInt32))) y1 y3 (y4 + 1) _ _ _ h hP hD hS (lv_sub hl [1, 2, 3, 0] rfl)
set_option maxHeartbeats 4000000 in
set_option maxRecDepth 100000 in
theorem w_X7_type_32 (CX : Cx p m c cX7_type 5 s args x0 RX7 meth (some .int)) (hK : va_K D vwCl (ty0 cI cJ cB) s) (hsz : s.heap.size = sz) : ∀ (thrown : Int32) (size : Int32) (text : Nat → Int32) (y1 : Int64) (y3 : Int32) (s1 : Int32) (H : Heap) (locs : List Loc) (ls : Array Slot), f_X7_type_32 N thrown size text y1 y3 s1 = some z → va_P D vwCl (ws_X7_type cI cJ cB a0 a_kind a_left a_right a_many a_bits a_rows a_table a_roots a_moved a_out a_above a_below a_row a_sum a_point a_pointRows a_pointSorts a_text thrown used rooted size outSize points takenOut great at_ fault open_ wrong by_ sort variable_ pointCount text) H → va_D (va_A ws0 sz) (ws_X7_type cI cJ cB a0 a_kind a_left a_right a_many a_bits a_rows a_table a_roots a_moved a_out a_above a_below a_row a_sum a_point a_pointRows a_pointSorts a_text thrown used rooted size outSize points takenOut great at_ fault open_ wrong by_ sort variable_ pointCount text) → va_S (va_A ws0 sz) s.heap H locs → lv_has ls 5 [(0, .ref a0), (1, .long y1), (3, .int y3)] → W p l e rm_X7_type s m args below meth c H locs 0 0 (MQ below (gQ D sz ws0 (ws_X7_type cI cJ cB a0 a_kind a_left a_right a_many a_bits a_rows a_table a_roots a_moved a_out a_above a_below a_row a_sum a_point a_pointRows a_pointSorts a_text z.2.1 used rooted z.2.2.1 outSize points takenOut great at_ fault open_ wrong by_ sort variable_ pointCount z.2.2.2) (some (.int z.1))) args s 0 0 (va_A ws0 sz)) (F0 m 32 ls [.int s1, .ref a0]) := by
  obtain ⟨F, hr, hlk, hNw⟩ := id CX
  have hx := F.1
  have hb := F.2.1
  have hown := F.2.2.2.1
  have hA : ∀ q, s.heap.size ≤ q → va_A ws0 sz q := fun q hq => Or.inr (hsz ▸ hq)
  intro thrown size text y1 y3 s1 H locs ls h hP hD hS hl
  unfold f_X7_type_32 at h
  refine r_put (wn := (ws_X7_type cI cJ cB a0 a_kind a_left a_right a_many a_bits a_rows a_table a_roots a_moved a_out a_above a_below a_row a_sum a_point a_pointRows a_pointSorts a_text s1 used rooted size outSize points takenOut great at_ fault open_ wrong by_ sort variable_ pointCount text)) F hK hP hD hS 0 0 rfl inW_X7 wm_1092 tyX7_ok nmX7 rfl rfl (by decide) rfl rfl (Nat.le_of_ble_eq_true rfl) rfl dX7_type_32 (fun H locs hP hD hS => ?_)
  refine lv_aload_n hx hb dX7_type_35 rfl (lv_at hl 0 rfl) ?_
  refine r_get F hK hP 0 0 rfl inW_X7 wm_1092 rfl (by decide) rfl dX7_type_36 ?_
  refine lv_if_le (tgt := 44) hx hb dX7_type_39 (by decide) (fun c39 => ?_) (fun c39 => ?_)
  · have h := o_t c39 h
    refine lv_iconst (v := 0) hx hb dX7_type_44 (by decide) ?_
    refine lv_istore (lv' := [(4, .int 0), (0, .ref a0), (1, .long y1), (3, .int y3)]) hx hb dX7_type_45 hl (by decide) rfl (fun ls hl => ?_)
    exact w_X7_type_47 CX hK hsz N s1 size text y1 y3 0 _ _ _ h hP hD hS (lv_sub hl [1, 2, 3, 0] rfl)
  · have h := o_f c39 h
    refine lv_iconst (v := 0) hx hb dX7_type_42 (by decide) ?_
    obtain rfl := Option.some.inj h
    exact r_ret (v := 0) F hr hlk rfl dX7_type_43 hsz hP hD hS
set_option maxHeartbeats 4000000 in
set_option maxRecDepth 100000 in
theorem w_X7_type_11 (CX : Cx p m c cX7_type 5 s args x0 RX7 meth (some .int)) (hK : va_K D vwCl (ty0 cI cJ cB) s) (hsz : s.heap.size = sz) : ∀ (thrown : Int32) (size : Int32) (text : Nat → Int32) (y1 : Int64) (y3 : Int32) (H : Heap) (locs : List Loc) (ls : Array Slot), f_X7_type_11 N thrown size text y1 y3 = some z → va_P D vwCl (ws_X7_type cI cJ cB a0 a_kind a_left a_right a_many a_bits a_rows a_table a_roots a_moved a_out a_above a_below a_row a_sum a_point a_pointRows a_pointSorts a_text thrown used rooted size outSize points takenOut great at_ fault open_ wrong by_ sort variable_ pointCount text) H → va_D (va_A ws0 sz) (ws_X7_type cI cJ cB a0 a_kind a_left a_right a_many a_bits a_rows a_table a_roots a_moved a_out a_above a_below a_row a_sum a_point a_pointRows a_pointSorts a_text thrown used rooted size outSize points takenOut great at_ fault open_ wrong by_ sort variable_ pointCount text) → va_S (va_A ws0 sz) s.heap H locs → lv_has ls 5 [(0, .ref a0), (1, .long y1), (3, .int y3)] → W p l e rm_X7_type s m args below meth c H locs 0 0 (MQ below (gQ D sz ws0 (ws_X7_type cI cJ cB a0 a_kind a_left a_right a_many a_bits a_rows a_table a_roots a_moved a_out a_above a_below a_row a_sum a_point a_pointRows a_pointSorts a_text z.2.1 used rooted z.2.2.1 outSize points takenOut great at_ fault open_ wrong by_ sort variable_ pointCount z.2.2.2) (some (.int z.1))) args s 0 0 (va_A ws0 sz)) (F0 m 11 ls [.ref a0]) := by
  obtain ⟨F, hr, hlk, hNw⟩ := id CX
  have hx := F.1
  have hb := F.2.1
  have hown := F.2.2.2.1
  have hA : ∀ q, s.heap.size ≤ q → va_A ws0 sz q := fun q hq => Or.inr (hsz ▸ hq)
  intro thrown size text y1 y3 H locs ls h hP hD hS hl
  unfold f_X7_type_11 at h
  refine lv_iconst (v := 1) hx hb dX7_type_11 (by decide) ?_
  refine lv_goto (tgt := 32) hx hb dX7_type_12 (by decide) ?_
  exact w_X7_type_32 CX hK hsz thrown size text y1 y3 1 _ _ _ h hP hD hS (lv_sub hl [0, 1, 2] rfl)
end G_X7_type
set_option maxHeartbeats 4000000 in
set_option maxRecDepth 100000 in
theorem c_X7_type (l : Launch) (D : va_G) (cI cJ cB : ClassId) (a0 a_kind a_left a_right a_many a_bits a_rows a_table a_roots a_moved a_out a_above a_below a_row a_sum a_point a_pointRows a_pointSorts a_text : Nat) (sz : Nat) (thrown : Int32) (used : Int32) (rooted : Int32) (size : Int32) (outSize : Int32) (points : Int32) (takenOut : Int32) (great : Int32) (at_ : Int32) (fault : Int32) (open_ : Int32) (wrong : Int32) (by_ : Int64) (sort : Int32) (variable_ : Int32) (pointCount : Int32) (text : Nat → Int32) (x1 : Int64) (x2 : Int32) (N : Nat) {z : Int32 × (Int32) × (Int32) × (Nat → Int32)} (h : f_X7_type N thrown size text x1 x2 = some z) : Mg l yX7_type cX7_type 5 (some .int) rm_X7_type D (ty0 cI cJ cB) [.ref a0, .long x1, .int x2] sz (ws_X7_type cI cJ cB a0 a_kind a_left a_right a_many a_bits a_rows a_table a_roots a_moved a_out a_above a_below a_row a_sum a_point a_pointRows a_pointSorts a_text thrown used rooted size outSize points takenOut great at_ fault open_ wrong by_ sort variable_ pointCount text) (some (.int z.1)) (ws_X7_type cI cJ cB a0 a_kind a_left a_right a_many a_bits a_rows a_table a_roots a_moved a_out a_above a_below a_row a_sum a_point a_pointRows a_pointSorts a_text z.2.1 used rooted z.2.2.1 outSize points takenOut great at_ fault open_ wrong by_ sort variable_ pointCount z.2.2.2) := by
  refine Mg.of (by decide) (Nat.le_of_ble_eq_true rfl) ?_
  intro p e s m below meth c CX hK hsz hP hD ls hl
  have CX : Cx p m c cX7_type 5 s ([.ref a0, .long x1, .int x2] : List Value).toArray (Cond.code yX7_type cX7_type 5 (some .int)) RX7 meth (some .int) := CX
  obtain ⟨F, hr, hlk, hNw⟩ := id CX
  have hx := F.1
  have hb := F.2.1
  have hown := F.2.2.2.1
  have hl : lv_has ls 5 [(0, .ref a0), (1, .long x1), (3, .int x2)] := hl
  have hS : va_S (va_A (ws_X7_type cI cJ cB a0 a_kind a_left a_right a_many a_bits a_rows a_table a_roots a_moved a_out a_above a_below a_row a_sum a_point a_pointRows a_pointSorts a_text thrown used rooted size outSize points takenOut great at_ fault open_ wrong by_ sort variable_ pointCount text) sz) s.heap s.heap [] := va_S.rf
  have hA : ∀ q, s.heap.size ≤ q → va_A (ws_X7_type cI cJ cB a0 a_kind a_left a_right a_many a_bits a_rows a_table a_roots a_moved a_out a_above a_below a_row a_sum a_point a_pointRows a_pointSorts a_text thrown used rooted size outSize points takenOut great at_ fault open_ wrong by_ sort variable_ pointCount text) sz q := fun q hq => Or.inr (hsz ▸ hq)
  unfold f_X7_type at h
  refine lv_aload_n hx hb dX7_type_0 rfl (lv_at hl 0 rfl) ?_
  refine lv_iload_n hx hb dX7_type_1 rfl (lv_at hl 2 rfl) ?_
  refine lv_if_lt (tgt := 11) hx hb dX7_type_2 (by decide) (fun c2 => ?_) (fun c2 => ?_)
  · have h := o_t c2 h
    exact w_X7_type_11 CX hK hsz thrown size text x1 x2 _ _ _ h hP hD hS (lv_sub hl [0, 1, 2] rfl)
  · have h := o_f c2 h
    refine lv_iload_n hx hb dX7_type_5 rfl (lv_at hl 2 rfl) ?_
    refine lv_bipush (v := 8) hx hb dX7_type_6 (by decide) ?_
    refine lv_icmp_le (tgt := 15) hx hb dX7_type_8 (by decide) (fun c8 => ?_) (fun c8 => ?_)
    · have h := o_t c8 h
      refine lv_aload_n hx hb dX7_type_15 rfl (lv_at hl 0 rfl) ?_
      refine r_get F hK hP 0 13 rfl inW_X7 wm_1105 rfl (by decide) rfl dX7_type_16 ?_
      refine lv_iload_n hx hb dX7_type_19 rfl (lv_at hl 2 rfl) ?_
      refine lv_iadd hx hb dX7_type_20 ?_
      refine lv_sipush (v := 240) hx hb dX7_type_21 (by decide) ?_
      refine lv_icmp_le (tgt := 31) hx hb dX7_type_24 (by decide) (fun c24 => ?_) (fun c24 => ?_)
      · have h := o_t c24 h
        refine lv_iconst (v := 0) hx hb dX7_type_31 (by decide) ?_
        exact w_X7_type_32 CX hK hsz thrown size text x1 x2 0 _ _ _ h hP hD hS (lv_sub hl [0, 1, 2] rfl)
      · have h := o_f c24 h
        refine lv_iconst (v := 2) hx hb dX7_type_27 (by decide) ?_
        refine lv_goto (tgt := 32) hx hb dX7_type_28 (by decide) ?_
        exact w_X7_type_32 CX hK hsz thrown size text x1 x2 2 _ _ _ h hP hD hS (lv_sub hl [0, 1, 2] rfl)
    · have h := o_f c8 h
      exact w_X7_type_11 CX hK hsz thrown size text x1 x2 _ _ _ h hP hD hS (lv_sub hl [0, 1, 2] rfl)
section G_X7_clear
abbrev ws_X7_clear (cI cJ cB : ClassId) (a0 a_kind a_left a_right a_many a_bits a_rows a_table a_roots a_moved a_text a_out a_above a_below a_row a_sum a_point a_pointRows a_pointSorts : Nat) (thrown : Int32) (used : Int32) (rooted : Int32) (size : Int32) (outSize : Int32) (points : Int32) (takenOut : Int32) (great : Int32) (at_ : Int32) (fault : Int32) (open_ : Int32) (wrong : Int32) (by_ : Int64) (sort : Int32) (variable_ : Int32) (pointCount : Int32) : va_W := [(a0, .inr (9, [.int thrown, .ref a_kind, .ref a_left, .ref a_right, .ref a_many, .ref a_bits, .ref a_rows, .ref a_table, .int used, .ref a_roots, .int rooted, .ref a_moved, .ref a_text, .int size, .ref a_out, .int outSize, .ref a_above, .ref a_below, .int points, .int takenOut, .int great, .ref a_row, .int at_, .int fault, .int open_, .int wrong, .ref a_sum, .ref a_point, .long by_, .int sort, .int variable_, .ref a_pointRows, .ref a_pointSorts, .int pointCount]))]
abbrev rm_X7_clear : Room := { frames := 0, cells := 0, slots := 0, locals := 0 }
def f_X7_clear (N : Nat) (thrown : Int32) (size : Int32) : Option (Int32 × (Int32) × (Int32)) := some (size, 0, 0)
variable {p : Program} {l : Launch} {e : Env} {s : State} {m : MethodId} {below : List Frame} {meth : Method} {c : Code} {args : Array Value} {x0 : Cond} {D : va_G} {cI cJ cB : ClassId} {sz N : Nat} {ws0 : va_W} {a0 a_kind a_left a_right a_many a_bits a_rows a_table a_roots a_moved a_text a_out a_above a_below a_row a_sum a_point a_pointRows a_pointSorts : Nat} {used : Int32} {rooted : Int32} {outSize : Int32} {points : Int32} {takenOut : Int32} {great : Int32} {at_ : Int32} {fault : Int32} {open_ : Int32} {wrong : Int32} {by_ : Int64} {sort : Int32} {variable_ : Int32} {pointCount : Int32} {z : Int32 × (Int32) × (Int32)}
end G_X7_clear
set_option maxHeartbeats 4000000 in
set_option maxRecDepth 100000 in
theorem c_X7_clear (l : Launch) (D : va_G) (cI cJ cB : ClassId) (a0 a_kind a_left a_right a_many a_bits a_rows a_table a_roots a_moved a_text a_out a_above a_below a_row a_sum a_point a_pointRows a_pointSorts : Nat) (sz : Nat) (thrown : Int32) (used : Int32) (rooted : Int32) (size : Int32) (outSize : Int32) (points : Int32) (takenOut : Int32) (great : Int32) (at_ : Int32) (fault : Int32) (open_ : Int32) (wrong : Int32) (by_ : Int64) (sort : Int32) (variable_ : Int32) (pointCount : Int32) (N : Nat) {z : Int32 × (Int32) × (Int32)} (h : f_X7_clear N thrown size = some z) : Mg l yX7_clear cX7_clear 2 (some .int) rm_X7_clear D (ty0 cI cJ cB) [.ref a0] sz (ws_X7_clear cI cJ cB a0 a_kind a_left a_right a_many a_bits a_rows a_table a_roots a_moved a_text a_out a_above a_below a_row a_sum a_point a_pointRows a_pointSorts thrown used rooted size outSize points takenOut great at_ fault open_ wrong by_ sort variable_ pointCount) (some (.int z.1)) (ws_X7_clear cI cJ cB a0 a_kind a_left a_right a_many a_bits a_rows a_table a_roots a_moved a_text a_out a_above a_below a_row a_sum a_point a_pointRows a_pointSorts z.2.1 used rooted z.2.2 outSize points takenOut great at_ fault open_ wrong by_ sort variable_ pointCount) := by
  refine Mg.of (by decide) (Nat.le_of_ble_eq_true rfl) ?_
  intro p e s m below meth c CX hK hsz hP hD ls hl
  have CX : Cx p m c cX7_clear 2 s ([.ref a0] : List Value).toArray (Cond.code yX7_clear cX7_clear 2 (some .int)) RX7 meth (some .int) := CX
  obtain ⟨F, hr, hlk, hNw⟩ := id CX
  have hx := F.1
  have hb := F.2.1
  have hown := F.2.2.2.1
  have hl : lv_has ls 2 [(0, .ref a0)] := hl
  have hS : va_S (va_A (ws_X7_clear cI cJ cB a0 a_kind a_left a_right a_many a_bits a_rows a_table a_roots a_moved a_text a_out a_above a_below a_row a_sum a_point a_pointRows a_pointSorts thrown used rooted size outSize points takenOut great at_ fault open_ wrong by_ sort variable_ pointCount) sz) s.heap s.heap [] := va_S.rf
  have hA : ∀ q, s.heap.size ≤ q → va_A (ws_X7_clear cI cJ cB a0 a_kind a_left a_right a_many a_bits a_rows a_table a_roots a_moved a_text a_out a_above a_below a_row a_sum a_point a_pointRows a_pointSorts thrown used rooted size outSize points takenOut great at_ fault open_ wrong by_ sort variable_ pointCount) sz q := fun q hq => Or.inr (hsz ▸ hq)
  unfold f_X7_clear at h
  refine lv_aload_n hx hb dX7_clear_0 rfl (lv_at hl 0 rfl) ?_
  refine lv_iconst (v := 0) hx hb dX7_clear_1 (by decide) ?_
  refine r_put (wn := (ws_X7_clear cI cJ cB a0 a_kind a_left a_right a_many a_bits a_rows a_table a_roots a_moved a_text a_out a_above a_below a_row a_sum a_point a_pointRows a_pointSorts 0 used rooted size outSize points takenOut great at_ fault open_ wrong by_ sort variable_ pointCount)) F hK hP hD hS 0 0 rfl inW_X7 wm_1092 tyX7_ok nmX7 rfl rfl (by decide) rfl rfl (Nat.le_of_ble_eq_true rfl) rfl dX7_clear_2 (fun H locs hP hD hS => ?_)
  refine lv_aload_n hx hb dX7_clear_5 rfl (lv_at hl 0 rfl) ?_
  refine r_get F hK hP 0 13 rfl inW_X7 wm_1105 rfl (by decide) rfl dX7_clear_6 ?_
  refine lv_istore_n (lv' := [(1, .int size), (0, .ref a0)]) hx hb dX7_clear_9 rfl hl (by decide) rfl (fun ls hl => ?_)
  refine lv_aload_n hx hb dX7_clear_10 rfl (lv_at hl 1 rfl) ?_
  refine lv_iconst (v := 0) hx hb dX7_clear_11 (by decide) ?_
  refine r_put (wn := (ws_X7_clear cI cJ cB a0 a_kind a_left a_right a_many a_bits a_rows a_table a_roots a_moved a_text a_out a_above a_below a_row a_sum a_point a_pointRows a_pointSorts 0 used rooted 0 outSize points takenOut great at_ fault open_ wrong by_ sort variable_ pointCount)) F hK hP hD hS 0 13 rfl inW_X7 wm_1105 tyX7_ok nmX7 rfl rfl (by decide) rfl rfl (Nat.le_of_ble_eq_true rfl) rfl dX7_clear_12 (fun H locs hP hD hS => ?_)
  refine lv_iload_n hx hb dX7_clear_15 rfl (lv_at hl 0 rfl) ?_
  obtain rfl := Option.some.inj h
  exact r_ret (v := size) F hr hlk rfl dX7_clear_16 hsz hP hD hS
section G_X7_free
abbrev ws_X7_free (cI cJ cB : ClassId) (a0 a_kind a_left a_right a_many a_rows a_table a_moved a_text a_out a_above a_below a_row a_sum a_point a_pointRows a_pointSorts a_bits a_roots : Nat) (thrown : Int32) (used : Int32) (rooted : Int32) (size : Int32) (outSize : Int32) (points : Int32) (takenOut : Int32) (great : Int32) (at_ : Int32) (fault : Int32) (open_ : Int32) (wrong : Int32) (by_ : Int64) (sort : Int32) (variable_ : Int32) (pointCount : Int32) (bits : Nat → Int32) (roots : Nat → Int32) : va_W := [(a0, .inr (9, [.int thrown, .ref a_kind, .ref a_left, .ref a_right, .ref a_many, .ref a_bits, .ref a_rows, .ref a_table, .int used, .ref a_roots, .int rooted, .ref a_moved, .ref a_text, .int size, .ref a_out, .int outSize, .ref a_above, .ref a_below, .int points, .int takenOut, .int great, .ref a_row, .int at_, .int fault, .int open_, .int wrong, .ref a_sum, .ref a_point, .long by_, .int sort, .int variable_, .ref a_pointRows, .ref a_pointSorts, .int pointCount])), (a_bits, .inl (cI, 24000, .inl bits)), (a_roots, .inl (cI, 2000, .inl roots))]
abbrev rm_X7_free : Room := { frames := 0, cells := 0, slots := 0, locals := 0 }
def f_X7_free (N : Nat) (thrown : Int32) (bits : Nat → Int32) (roots : Nat → Int32) : Option (Int32 × (Int32)) := ix 0 2000 (ix (roots (0 : Int32).toNatClampNeg) 24000 (some (bits (roots (0 : Int32).toNatClampNeg).toNatClampNeg, 0)))
variable {p : Program} {l : Launch} {e : Env} {s : State} {m : MethodId} {below : List Frame} {meth : Method} {c : Code} {args : Array Value} {x0 : Cond} {D : va_G} {cI cJ cB : ClassId} {sz N : Nat} {ws0 : va_W} {a0 a_kind a_left a_right a_many a_rows a_table a_moved a_text a_out a_above a_below a_row a_sum a_point a_pointRows a_pointSorts a_bits a_roots : Nat} {used : Int32} {rooted : Int32} {size : Int32} {outSize : Int32} {points : Int32} {takenOut : Int32} {great : Int32} {at_ : Int32} {fault : Int32} {open_ : Int32} {wrong : Int32} {by_ : Int64} {sort : Int32} {variable_ : Int32} {pointCount : Int32} {bits : Nat → Int32} {roots : Nat → Int32} {z : Int32 × (Int32)}
end G_X7_free
set_option maxHeartbeats 4000000 in
set_option maxRecDepth 100000 in
theorem c_X7_free (l : Launch) (D : va_G) (cI cJ cB : ClassId) (a0 a_kind a_left a_right a_many a_rows a_table a_moved a_text a_out a_above a_below a_row a_sum a_point a_pointRows a_pointSorts a_bits a_roots : Nat) (sz : Nat) (thrown : Int32) (used : Int32) (rooted : Int32) (size : Int32) (outSize : Int32) (points : Int32) (takenOut : Int32) (great : Int32) (at_ : Int32) (fault : Int32) (open_ : Int32) (wrong : Int32) (by_ : Int64) (sort : Int32) (variable_ : Int32) (pointCount : Int32) (bits : Nat → Int32) (roots : Nat → Int32) (N : Nat) {z : Int32 × (Int32)} (h : f_X7_free N thrown bits roots = some z) : Mg l yX7_free cX7_free 1 (some .int) rm_X7_free D (ty0 cI cJ cB) [.ref a0] sz (ws_X7_free cI cJ cB a0 a_kind a_left a_right a_many a_rows a_table a_moved a_text a_out a_above a_below a_row a_sum a_point a_pointRows a_pointSorts a_bits a_roots thrown used rooted size outSize points takenOut great at_ fault open_ wrong by_ sort variable_ pointCount bits roots) (some (.int z.1)) (ws_X7_free cI cJ cB a0 a_kind a_left a_right a_many a_rows a_table a_moved a_text a_out a_above a_below a_row a_sum a_point a_pointRows a_pointSorts a_bits a_roots z.2 used rooted size outSize points takenOut great at_ fault open_ wrong by_ sort variable_ pointCount bits roots) := by
  refine Mg.of (by decide) (Nat.le_of_ble_eq_true rfl) ?_
  intro p e s m below meth c CX hK hsz hP hD ls hl
  have CX : Cx p m c cX7_free 1 s ([.ref a0] : List Value).toArray (Cond.code yX7_free cX7_free 1 (some .int)) RX7 meth (some .int) := CX
  obtain ⟨F, hr, hlk, hNw⟩ := id CX
  have hx := F.1
  have hb := F.2.1
  have hown := F.2.2.2.1
  have hl : lv_has ls 1 [(0, .ref a0)] := hl
  have hS : va_S (va_A (ws_X7_free cI cJ cB a0 a_kind a_left a_right a_many a_rows a_table a_moved a_text a_out a_above a_below a_row a_sum a_point a_pointRows a_pointSorts a_bits a_roots thrown used rooted size outSize points takenOut great at_ fault open_ wrong by_ sort variable_ pointCount bits roots) sz) s.heap s.heap [] := va_S.rf
  have hA : ∀ q, s.heap.size ≤ q → va_A (ws_X7_free cI cJ cB a0 a_kind a_left a_right a_many a_rows a_table a_moved a_text a_out a_above a_below a_row a_sum a_point a_pointRows a_pointSorts a_bits a_roots thrown used rooted size outSize points takenOut great at_ fault open_ wrong by_ sort variable_ pointCount bits roots) sz q := fun q hq => Or.inr (hsz ▸ hq)
  unfold f_X7_free at h
  refine lv_aload_n hx hb dX7_free_0 rfl (lv_at hl 0 rfl) ?_
  refine lv_iconst (v := 0) hx hb dX7_free_1 (by decide) ?_
  refine r_put (wn := (ws_X7_free cI cJ cB a0 a_kind a_left a_right a_many a_rows a_table a_moved a_text a_out a_above a_below a_row a_sum a_point a_pointRows a_pointSorts a_bits a_roots 0 used rooted size outSize points takenOut great at_ fault open_ wrong by_ sort variable_ pointCount bits roots)) F hK hP hD hS 0 0 rfl inW_X7 wm_1092 tyX7_ok nmX7 rfl rfl (by decide) rfl rfl (Nat.le_of_ble_eq_true rfl) rfl dX7_free_2 (fun H locs hP hD hS => ?_)
  refine lv_aload_n hx hb dX7_free_5 rfl (lv_at hl 0 rfl) ?_
  refine r_get F hK hP 0 5 rfl inW_X7 wm_1097 rfl (by decide) rfl dX7_free_6 ?_
  refine lv_aload_n hx hb dX7_free_9 rfl (lv_at hl 0 rfl) ?_
  refine r_get F hK hP 0 9 rfl inW_X7 wm_1101 rfl (by decide) rfl dX7_free_10 ?_
  refine lv_iconst (v := 0) hx hb dX7_free_13 (by decide) ?_
  obtain ⟨hi14, h⟩ := o_ix h
  refine va_iald hx hb hK hP 2 0 rfl rfl hi14 dX7_free_14 ?_
  obtain ⟨hi15, h⟩ := o_ix h
  refine va_iald hx hb hK hP 1 0 rfl rfl hi15 dX7_free_15 ?_
  obtain rfl := Option.some.inj h
  exact r_ret (v := bits (roots (0 : Int32).toNatClampNeg).toNatClampNeg) F hr hlk rfl dX7_free_16 hsz hP hD hS
section G_X7_put
abbrev ws_X7_put (cI cJ cB : ClassId) (a0 a_roots a_moved a_text a_out a_above a_below a_sum a_pointRows a_pointSorts a_kind a_left a_right a_many a_bits a_rows a_table a_row a_point : Nat) (thrown : Int32) (used : Int32) (rooted : Int32) (size : Int32) (outSize : Int32) (points : Int32) (takenOut : Int32) (great : Int32) (at_ : Int32) (fault : Int32) (open_ : Int32) (wrong : Int32) (by_ : Int64) (sort : Int32) (variable_ : Int32) (pointCount : Int32) (kind : Nat → Int32) (left_ : Nat → Int32) (right_ : Nat → Int32) (many : Nat → Int32) (bits : Nat → Int32) (rows : Nat → Int32) (table : Nat → Int32) (row : Nat → Int64) (point : Nat → Int64) : va_W := [(a0, .inr (9, [.int thrown, .ref a_kind, .ref a_left, .ref a_right, .ref a_many, .ref a_bits, .ref a_rows, .ref a_table, .int used, .ref a_roots, .int rooted, .ref a_moved, .ref a_text, .int size, .ref a_out, .int outSize, .ref a_above, .ref a_below, .int points, .int takenOut, .int great, .ref a_row, .int at_, .int fault, .int open_, .int wrong, .ref a_sum, .ref a_point, .long by_, .int sort, .int variable_, .ref a_pointRows, .ref a_pointSorts, .int pointCount])), (a_kind, .inl (cI, 24000, .inl kind)), (a_left, .inl (cI, 24000, .inl left_)), (a_right, .inl (cI, 24000, .inl right_)), (a_many, .inl (cI, 24000, .inl many)), (a_bits, .inl (cI, 24000, .inl bits)), (a_rows, .inl (cI, 216000, .inl rows)), (a_table, .inl (cI, 65536, .inl table)), (a_row, .inl (cJ, 9, .inr (.inl row))), (a_point, .inl (cJ, 9, .inr (.inl point)))]
abbrev rm_X7_put : Room := { frames := 3, cells := 0, slots := 0, locals := 81 }
def f_X7_put_46 (N : Nat) (used : Int32) (great : Int32) (by_ : Int64) (sort : Int32) (variable_ : Int32) (kind : Nat → Int32) (left_ : Nat → Int32) (right_ : Nat → Int32) (many : Nat → Int32) (bits : Nat → Int32) (rows : Nat → Int32) (table : Nat → Int32) (row : Nat → Int64) (point : Nat → Int64) (s1 : Int32) : Option (Int32 × (Int32) × (Int32) × (Nat → Int32) × (Nat → Int32) × (Nat → Int32) × (Nat → Int32) × (Nat → Int32) × (Nat → Int32) × (Nat → Int32) × (Nat → Int64)) := (f_X7_truth N s1).bind (fun z46 => some (z46, used, great, kind, left_, right_, many, bits, rows, table, row))
def f_X7_put_67 (N : Nat) (used : Int32) (great : Int32) (by_ : Int64) (sort : Int32) (variable_ : Int32) (kind : Nat → Int32) (left_ : Nat → Int32) (right_ : Nat → Int32) (many : Nat → Int32) (bits : Nat → Int32) (rows : Nat → Int32) (table : Nat → Int32) (row : Nat → Int64) (point : Nat → Int64) (s1 : Int32) : Option (Int32 × (Int32) × (Int32) × (Nat → Int32) × (Nat → Int32) × (Nat → Int32) × (Nat → Int32) × (Nat → Int32) × (Nat → Int32) × (Nat → Int32) × (Nat → Int64)) := (f_X7_truth N s1).bind (fun z67 => some (z67, used, great, kind, left_, right_, many, bits, rows, table, row))
def f_X7_put_129 (K74 : Int32 → Int32 → Int64 → Int32 → Int32 → (Nat → Int32) → (Nat → Int32) → (Nat → Int32) → (Nat → Int32) → (Nat → Int32) → (Nat → Int32) → (Nat → Int32) → (Nat → Int64) → (Nat → Int64) → Int32 → Int32 → Int32 → Int32 → Option (Int32 × (Int32) × (Int32) × (Nat → Int32) × (Nat → Int32) × (Nat → Int32) × (Nat → Int32) × (Nat → Int32) × (Nat → Int32) × (Nat → Int32) × (Nat → Int64))) (N : Nat) (used : Int32) (great : Int32) (by_ : Int64) (sort : Int32) (variable_ : Int32) (kind : Nat → Int32) (left_ : Nat → Int32) (right_ : Nat → Int32) (many : Nat → Int32) (bits : Nat → Int32) (rows : Nat → Int32) (table : Nat → Int32) (row : Nat → Int64) (point : Nat → Int64) (y1 : Int32) (y2 : Int32) (y3 : Int32) (y4 : Int32) (s1 : Int32) (s2 : Int64) : Option (Int32 × (Int32) × (Int32) × (Nat → Int32) × (Nat → Int32) × (Nat → Int32) × (Nat → Int32) × (Nat → Int32) × (Nat → Int32) × (Nat → Int32) × (Nat → Int64)) := ix s1 9 (K74 used great by_ sort variable_ kind left_ right_ many bits rows table (vp_updL row s1.toNatClampNeg s2) point y1 y2 y3 (y4 + 1))
def f_X7_put_158 (N : Nat) (used : Int32) (great : Int32) (by_ : Int64) (sort : Int32) (variable_ : Int32) (kind : Nat → Int32) (left_ : Nat → Int32) (right_ : Nat → Int32) (many : Nat → Int32) (bits : Nat → Int32) (rows : Nat → Int32) (table : Nat → Int32) (row : Nat → Int64) (point : Nat → Int64) (s1 : Int32) : Option (Int32 × (Int32) × (Int32) × (Nat → Int32) × (Nat → Int32) × (Nat → Int32) × (Nat → Int32) × (Nat → Int32) × (Nat → Int32) × (Nat → Int32) × (Nat → Int64)) := (f_X7_atom N used great kind left_ right_ many bits rows table row s1).bind (fun z158 => some (z158.1, z158.2.1, z158.2.2.1, z158.2.2.2.1, z158.2.2.2.2.1, z158.2.2.2.2.2.1, z158.2.2.2.2.2.2.1, z158.2.2.2.2.2.2.2.1, z158.2.2.2.2.2.2.2.2.1, z158.2.2.2.2.2.2.2.2.2.1, z158.2.2.2.2.2.2.2.2.2.2))
def f_X7_put_74 (N : Nat) : Nat → Int32 → Int32 → Int64 → Int32 → Int32 → (Nat → Int32) → (Nat → Int32) → (Nat → Int32) → (Nat → Int32) → (Nat → Int32) → (Nat → Int32) → (Nat → Int32) → (Nat → Int64) → (Nat → Int64) → Int32 → Int32 → Int32 → Int32 → Option (Int32 × (Int32) × (Int32) × (Nat → Int32) × (Nat → Int32) × (Nat → Int32) × (Nat → Int32) × (Nat → Int32) × (Nat → Int32) × (Nat → Int32) × (Nat → Int64))
  | 0 => fun _ _ _ _ _ _ _ _ _ _ _ _ _ _ _ _ _ _ => none
  | n + 1 => fun used great by_ sort variable_ kind left_ right_ many bits rows table row point y1 y2 y3 y4 => ifb (9 ≤ y4) (ifb (sort = 1) (f_X7_put_158 N used great by_ sort variable_ kind left_ right_ many bits rows table row point y3) (ifb (y2 ≤ 0) (f_X7_put_158 N used great by_ sort variable_ kind left_ right_ many bits rows table row point 3) (f_X7_put_158 N used great by_ sort variable_ kind left_ right_ many bits rows table row point 2))) (ifb (y4 = variable_) (f_X7_put_129 (f_X7_put_74 N n) N used great by_ sort variable_ kind left_ right_ many bits rows table row point y1 y2 y3 y4 y4 0) (ix ((9 * y1) + y4) 216000 (ix y4 9 (f_X7_put_129 (f_X7_put_74 N n) N used great by_ sort variable_ kind left_ right_ many bits rows table row point y1 y2 y3 y4 y4 ((by_ * ((rows ((9 * y1) + y4).toNatClampNeg).toInt64)) - (y2.toInt64 * (point y4.toNatClampNeg)))))))
def f_X7_put_50 (N : Nat) (used : Int32) (great : Int32) (by_ : Int64) (sort : Int32) (variable_ : Int32) (kind : Nat → Int32) (left_ : Nat → Int32) (right_ : Nat → Int32) (many : Nat → Int32) (bits : Nat → Int32) (rows : Nat → Int32) (table : Nat → Int32) (row : Nat → Int64) (point : Nat → Int64) (y1 : Int32) (y2 : Int32) (y3 : Int32) : Option (Int32 × (Int32) × (Int32) × (Nat → Int32) × (Nat → Int32) × (Nat → Int32) × (Nat → Int32) × (Nat → Int32) × (Nat → Int32) × (Nat → Int32) × (Nat → Int64)) := ifb (sort = 0) (ifb (y2 ≤ 0) (f_X7_put_67 N used great by_ sort variable_ kind left_ right_ many bits rows table row point 0) (f_X7_put_67 N used great by_ sort variable_ kind left_ right_ many bits rows table row point 1)) (f_X7_put_74 N N used great by_ sort variable_ kind left_ right_ many bits rows table row point y1 y2 y3 0)
def f_X7_put (N : Nat) (used : Int32) (great : Int32) (by_ : Int64) (sort : Int32) (variable_ : Int32) (kind : Nat → Int32) (left_ : Nat → Int32) (right_ : Nat → Int32) (many : Nat → Int32) (bits : Nat → Int32) (rows : Nat → Int32) (table : Nat → Int32) (row : Nat → Int64) (point : Nat → Int64) (x1 : Int32) : Option (Int32 × (Int32) × (Int32) × (Nat → Int32) × (Nat → Int32) × (Nat → Int32) × (Nat → Int32) × (Nat → Int32) × (Nat → Int32) × (Nat → Int32) × (Nat → Int64)) := ix ((9 * x1) + variable_) 216000 (ix x1 24000 (ifb (sort = 1) (f_X7_put_50 N used great by_ sort variable_ kind left_ right_ many bits rows table row point x1 (rows ((9 * x1) + variable_).toNatClampNeg) (left_ x1.toNatClampNeg)) (ifb (2 ≤ (left_ x1.toNatClampNeg)) (f_X7_put_50 N used great by_ sort variable_ kind left_ right_ many bits rows table row point x1 (rows ((9 * x1) + variable_).toNatClampNeg) (left_ x1.toNatClampNeg)) (ifb ((left_ x1.toNatClampNeg) = 1) (f_X7_put_46 N used great by_ sort variable_ kind left_ right_ many bits rows table row point 1) (f_X7_put_46 N used great by_ sort variable_ kind left_ right_ many bits rows table row point 0)))))
variable {p : Program} {l : Launch} {e : Env} {s : State} {m : MethodId} {below : List Frame} {meth : Method} {c : Code} {args : Array Value} {x0 : Cond} {D : va_G} {cI cJ cB : ClassId} {sz N : Nat} {ws0 : va_W} {a0 a_roots a_moved a_text a_out a_above a_below a_sum a_pointRows a_pointSorts a_kind a_left a_right a_many a_bits a_rows a_table a_row a_point : Nat} {thrown : Int32} {rooted : Int32} {size : Int32} {outSize : Int32} {points : Int32} {takenOut : Int32} {at_ : Int32} {fault : Int32} {open_ : Int32} {wrong : Int32} {by_ : Int64} {sort : Int32} {variable_ : Int32} {pointCount : Int32} {point : Nat → Int64} {z : Int32 × (Int32) × (Int32) × (Nat → Int32) × (Nat → Int32) × (Nat → Int32) × (Nat → Int32) × (Nat → Int32) × (Nat → Int32) × (Nat → Int32) × (Nat → Int64)}
set_option maxHeartbeats 4000000 in
set_option maxRecDepth 100000 in
theorem w_X7_put_46 (CX : Cx p m c cX7_put 5 s args x0 RX7 meth (some .int)) (hK : va_K D vwCl (ty0 cI cJ cB) s) (hsz : s.heap.size = sz) : ∀ (used : Int32) (great : Int32) (kind : Nat → Int32) (left_ : Nat → Int32) (right_ : Nat → Int32) (many : Nat → Int32) (bits : Nat → Int32) (rows : Nat → Int32) (table : Nat → Int32) (row : Nat → Int64) (s1 : Int32) (H : Heap) (locs : List Loc) (ls : Array Slot), f_X7_put_46 N used great by_ sort variable_ kind left_ right_ many bits rows table row point s1 = some z → va_P D vwCl (ws_X7_put cI cJ cB a0 a_roots a_moved a_text a_out a_above a_below a_sum a_pointRows a_pointSorts a_kind a_left a_right a_many a_bits a_rows a_table a_row a_point thrown used rooted size outSize points takenOut great at_ fault open_ wrong by_ sort variable_ pointCount kind left_ right_ many bits rows table row point) H → va_D (va_A ws0 sz) (ws_X7_put cI cJ cB a0 a_roots a_moved a_text a_out a_above a_below a_sum a_pointRows a_pointSorts a_kind a_left a_right a_many a_bits a_rows a_table a_row a_point thrown used rooted size outSize points takenOut great at_ fault open_ wrong by_ sort variable_ pointCount kind left_ right_ many bits rows table row point) → va_S (va_A ws0 sz) s.heap H locs → lv_has ls 5 [] → W p l e rm_X7_put s m args below meth c H locs 0 0 (MQ below (gQ D sz ws0 (ws_X7_put cI cJ cB a0 a_roots a_moved a_text a_out a_above a_below a_sum a_pointRows a_pointSorts a_kind a_left a_right a_many a_bits a_rows a_table a_row a_point thrown z.2.1 rooted size outSize points takenOut z.2.2.1 at_ fault open_ wrong by_ sort variable_ pointCount z.2.2.2.1 z.2.2.2.2.1 z.2.2.2.2.2.1 z.2.2.2.2.2.2.1 z.2.2.2.2.2.2.2.1 z.2.2.2.2.2.2.2.2.1 z.2.2.2.2.2.2.2.2.2.1 z.2.2.2.2.2.2.2.2.2.2 point) (some (.int z.1))) args s 0 0 (va_A ws0 sz)) (F0 m 46 ls [.int s1, .ref a0]) := by
  obtain ⟨F, hr, hlk, hNw⟩ := id CX
  have hx := F.1
  have hb := F.2.1
  have hown := F.2.2.2.1
  have hA : ∀ q, s.heap.size ≤ q → va_A ws0 sz q := fun q hq => Or.inr (hsz ▸ hq)
  intro used great kind left_ right_ many bits rows table row s1 H locs ls h hP hD hS hl
  unfold f_X7_put_46 at h
  obtain ⟨z46, hz46, h⟩ := o_b h
  refine k_v (wn := (ws_X7_put cI cJ cB a0 a_roots a_moved a_text a_out a_above a_below a_sum a_pointRows a_pointSorts a_kind a_left a_right a_many a_bits a_rows a_table a_row a_point thrown used rooted size outSize points takenOut great at_ fault open_ wrong by_ sort variable_ pointCount kind left_ right_ many bits rows table row point)) (As := [.int s1]) (rest := []) F hNw hK hP hD hS hA (c_X7_truth l D cI cJ cB a0 a_kind a_left a_right a_many a_bits a_rows a_table a_roots a_moved a_text a_out a_above a_below a_row a_sum a_point a_pointRows a_pointSorts _ thrown used rooted size outSize points takenOut great at_ fault open_ wrong by_ sort variable_ pointCount s1 N hz46) wm_1227 cv_X7_truth [0] [1, 2, 3, 4, 5, 6, 7, 8, 9] [9, 0, 1, 2, 3, 4, 5, 6, 7, 8] (⟨rfl, rfl, rfl, by decide, rfl⟩ : Ix [0] [1, 2, 3, 4, 5, 6, 7, 8, 9] [9, 0, 1, 2, 3, 4, 5, 6, 7, 8] 10) rfl (hN_of 9 10 (by decide +kernel) rfl (by decide +kernel) rfl) rfl rfl rfl rfl ⟨rfl, rfl, by decide, by decide⟩ hl.1 rfl (Nat.le_of_ble_eq_true rfl) ⟨Nat.zero_le _, Nat.zero_le _⟩ dX7_put_46 (fun H locs hP hD hS => ?_)
  obtain rfl := Option.some.inj h
  exact r_ret (v := z46) F hr hlk rfl dX7_put_49 hsz hP hD hS
set_option maxHeartbeats 4000000 in
set_option maxRecDepth 100000 in
theorem w_X7_put_67 (CX : Cx p m c cX7_put 5 s args x0 RX7 meth (some .int)) (hK : va_K D vwCl (ty0 cI cJ cB) s) (hsz : s.heap.size = sz) : ∀ (used : Int32) (great : Int32) (kind : Nat → Int32) (left_ : Nat → Int32) (right_ : Nat → Int32) (many : Nat → Int32) (bits : Nat → Int32) (rows : Nat → Int32) (table : Nat → Int32) (row : Nat → Int64) (s1 : Int32) (H : Heap) (locs : List Loc) (ls : Array Slot), f_X7_put_67 N used great by_ sort variable_ kind left_ right_ many bits rows table row point s1 = some z → va_P D vwCl (ws_X7_put cI cJ cB a0 a_roots a_moved a_text a_out a_above a_below a_sum a_pointRows a_pointSorts a_kind a_left a_right a_many a_bits a_rows a_table a_row a_point thrown used rooted size outSize points takenOut great at_ fault open_ wrong by_ sort variable_ pointCount kind left_ right_ many bits rows table row point) H → va_D (va_A ws0 sz) (ws_X7_put cI cJ cB a0 a_roots a_moved a_text a_out a_above a_below a_sum a_pointRows a_pointSorts a_kind a_left a_right a_many a_bits a_rows a_table a_row a_point thrown used rooted size outSize points takenOut great at_ fault open_ wrong by_ sort variable_ pointCount kind left_ right_ many bits rows table row point) → va_S (va_A ws0 sz) s.heap H locs → lv_has ls 5 [] → W p l e rm_X7_put s m args below meth c H locs 0 0 (MQ below (gQ D sz ws0 (ws_X7_put cI cJ cB a0 a_roots a_moved a_text a_out a_above a_below a_sum a_pointRows a_pointSorts a_kind a_left a_right a_many a_bits a_rows a_table a_row a_point thrown z.2.1 rooted size outSize points takenOut z.2.2.1 at_ fault open_ wrong by_ sort variable_ pointCount z.2.2.2.1 z.2.2.2.2.1 z.2.2.2.2.2.1 z.2.2.2.2.2.2.1 z.2.2.2.2.2.2.2.1 z.2.2.2.2.2.2.2.2.1 z.2.2.2.2.2.2.2.2.2.1 z.2.2.2.2.2.2.2.2.2.2 point) (some (.int z.1))) args s 0 0 (va_A ws0 sz)) (F0 m 67 ls [.int s1, .ref a0]) := by
  obtain ⟨F, hr, hlk, hNw⟩ := id CX
  have hx := F.1
  have hb := F.2.1
  have hown := F.2.2.2.1
  have hA : ∀ q, s.heap.size ≤ q → va_A ws0 sz q := fun q hq => Or.inr (hsz ▸ hq)
  intro used great kind left_ right_ many bits rows table row s1 H locs ls h hP hD hS hl
  unfold f_X7_put_67 at h
  obtain ⟨z67, hz67, h⟩ := o_b h
  refine k_v (wn := (ws_X7_put cI cJ cB a0 a_roots a_moved a_text a_out a_above a_below a_sum a_pointRows a_pointSorts a_kind a_left a_right a_many a_bits a_rows a_table a_row a_point thrown used rooted size outSize points takenOut great at_ fault open_ wrong by_ sort variable_ pointCount kind left_ right_ many bits rows table row point)) (As := [.int s1]) (rest := []) F hNw hK hP hD hS hA (c_X7_truth l D cI cJ cB a0 a_kind a_left a_right a_many a_bits a_rows a_table a_roots a_moved a_text a_out a_above a_below a_row a_sum a_point a_pointRows a_pointSorts _ thrown used rooted size outSize points takenOut great at_ fault open_ wrong by_ sort variable_ pointCount s1 N hz67) wm_1227 cv_X7_truth [0] [1, 2, 3, 4, 5, 6, 7, 8, 9] [9, 0, 1, 2, 3, 4, 5, 6, 7, 8] (⟨rfl, rfl, rfl, by decide, rfl⟩ : Ix [0] [1, 2, 3, 4, 5, 6, 7, 8, 9] [9, 0, 1, 2, 3, 4, 5, 6, 7, 8] 10) rfl (hN_of 9 10 (by decide +kernel) rfl (by decide +kernel) rfl) rfl rfl rfl rfl ⟨rfl, rfl, by decide, by decide⟩ hl.1 rfl (Nat.le_of_ble_eq_true rfl) ⟨Nat.zero_le _, Nat.zero_le _⟩ dX7_put_67 (fun H locs hP hD hS => ?_)
  obtain rfl := Option.some.inj h
  exact r_ret (v := z67) F hr hlk rfl dX7_put_70 hsz hP hD hS
set_option maxHeartbeats 4000000 in
set_option maxRecDepth 100000 in
theorem w_X7_put_129 (CX : Cx p m c cX7_put 5 s args x0 RX7 meth (some .int)) (hK : va_K D vwCl (ty0 cI cJ cB) s) (hsz : s.heap.size = sz) {K74 : Int32 → Int32 → Int64 → Int32 → Int32 → (Nat → Int32) → (Nat → Int32) → (Nat → Int32) → (Nat → Int32) → (Nat → Int32) → (Nat → Int32) → (Nat → Int32) → (Nat → Int64) → (Nat → Int64) → Int32 → Int32 → Int32 → Int32 → Option (Int32 × (Int32) × (Int32) × (Nat → Int32) × (Nat → Int32) × (Nat → Int32) × (Nat → Int32) × (Nat → Int32) × (Nat → Int32) × (Nat → Int32) × (Nat → Int64))} (hK74 : ∀ (used : Int32) (great : Int32) (kind : Nat → Int32) (left_ : Nat → Int32) (right_ : Nat → Int32) (many : Nat → Int32) (bits : Nat → Int32) (rows : Nat → Int32) (table : Nat → Int32) (row : Nat → Int64) (y1 : Int32) (y2 : Int32) (y3 : Int32) (y4 : Int32) (H : Heap) (locs : List Loc) (ls : Array Slot), K74 used great by_ sort variable_ kind left_ right_ many bits rows table row point y1 y2 y3 y4 = some z → va_P D vwCl (ws_X7_put cI cJ cB a0 a_roots a_moved a_text a_out a_above a_below a_sum a_pointRows a_pointSorts a_kind a_left a_right a_many a_bits a_rows a_table a_row a_point thrown used rooted size outSize points takenOut great at_ fault open_ wrong by_ sort variable_ pointCount kind left_ right_ many bits rows table row point) H → va_D (va_A ws0 sz) (ws_X7_put cI cJ cB a0 a_roots a_moved a_text a_out a_above a_below a_sum a_pointRows a_pointSorts a_kind a_left a_right a_many a_bits a_rows a_table a_row a_point thrown used rooted size outSize points takenOut great at_ fault open_ wrong by_ sort variable_ pointCount kind left_ right_ many bits rows table row point) → va_S (va_A ws0 sz) s.heap H locs → lv_has ls 5 [(0, .ref a0), (1, .int y1), (2, .int y2), (3, .int y3), (4, .int y4)] → W p l e rm_X7_put s m args below meth c H locs 0 0 (MQ below (gQ D sz ws0 (ws_X7_put cI cJ cB a0 a_roots a_moved a_text a_out a_above a_below a_sum a_pointRows a_pointSorts a_kind a_left a_right a_many a_bits a_rows a_table a_row a_point thrown z.2.1 rooted size outSize points takenOut z.2.2.1 at_ fault open_ wrong by_ sort variable_ pointCount z.2.2.2.1 z.2.2.2.2.1 z.2.2.2.2.2.1 z.2.2.2.2.2.2.1 z.2.2.2.2.2.2.2.1 z.2.2.2.2.2.2.2.2.1 z.2.2.2.2.2.2.2.2.2.1 z.2.2.2.2.2.2.2.2.2.2 point) (some (.int z.1))) args s 0 0 (va_A ws0 sz)) (F0 m 74 ls [])) : ∀ (used : Int32) (great : Int32) (kind : Nat → Int32) (left_ : Nat → Int32) (right_ : Nat → Int32) (many : Nat → Int32) (bits : Nat → Int32) (rows : Nat → Int32) (table : Nat → Int32) (row : Nat → Int64) (y1 : Int32) (y2 : Int32) (y3 : Int32) (y4 : Int32) (s1 : Int32) (s2 : Int64) (H : Heap) (locs : List Loc) (ls : Array Slot), f_X7_put_129 K74 N used great by_ sort variable_ kind left_ right_ many bits rows table row point y1 y2 y3 y4 s1 s2 = some z → va_P D vwCl (ws_X7_put cI cJ cB a0 a_roots a_moved a_text a_out a_above a_below a_sum a_pointRows a_pointSorts a_kind a_left a_right a_many a_bits a_rows a_table a_row a_point thrown used rooted size outSize points takenOut great at_ fault open_ wrong by_ sort variable_ pointCount kind left_ right_ many bits rows table row point) H → va_D (va_A ws0 sz) (ws_X7_put cI cJ cB a0 a_roots a_moved a_text a_out a_above a_below a_sum a_pointRows a_pointSorts a_kind a_left a_right a_many a_bits a_rows a_table a_row a_point thrown used rooted size outSize points takenOut great at_ fault open_ wrong by_ sort variable_ pointCount kind left_ right_ many bits rows table row point) → va_S (va_A ws0 sz) s.heap H locs → lv_has ls 5 [(0, .ref a0), (1, .int y1), (2, .int y2), (3, .int y3), (4, .int y4)] → W p l e rm_X7_put s m args below meth c H locs 0 0 (MQ below (gQ D sz ws0 (ws_X7_put cI cJ cB a0 a_roots a_moved a_text a_out a_above a_below a_sum a_pointRows a_pointSorts a_kind a_left a_right a_many a_bits a_rows a_table a_row a_point thrown z.2.1 rooted size outSize points takenOut z.2.2.1 at_ fault open_ wrong by_ sort variable_ pointCount z.2.2.2.1 z.2.2.2.2.1 z.2.2.2.2.2.1 z.2.2.2.2.2.2.1 z.2.2.2.2.2.2.2.1 z.2.2.2.2.2.2.2.2.1 z.2.2.2.2.2.2.2.2.2.1 z.2.2.2.2.2.2.2.2.2.2 point) (some (.int z.1))) args s 0 0 (va_A ws0 sz)) (F0 m 129 ls [.long s2, .int s1, .ref a_row]) := by
  obtain ⟨F, hr, hlk, hNw⟩ := id CX
  have hx := F.1
  have hb := F.2.1
  have hown := F.2.2.2.1
  have hA : ∀ q, s.heap.size ≤ q → va_A ws0 sz q := fun q hq => Or.inr (hsz ▸ hq)
  intro used great kind left_ right_ many bits rows table row y1 y2 y3 y4 s1 s2 H locs ls h hP hD hS hl
  unfold f_X7_put_129 at h
  obtain ⟨hi129, h⟩ := o_ix h
  refine r_last (wn := (ws_X7_put cI cJ cB a0 a_roots a_moved a_text a_out a_above a_below a_sum a_pointRows a_pointSorts a_kind a_left a_right a_many a_bits a_rows a_table a_row a_point thrown used rooted size outSize points takenOut great at_ fault open_ wrong by_ sort variable_ pointCount kind left_ right_ many bits rows table (vp_updL row s1.toNatClampNeg s2) point)) F hK hP hD hS 8 1 hi129 rfl rfl rfl dX7_put_129 (fun H locs hP hD hS => ?_)
  refine lv_iinc (v := y4 + 1) (lv' := [(4, .int (y4 + 1)), (0, .ref a0), (1, .int y1), (2, .int y2), (3, .int y3)]) hx hb dX7_put_130 hl (k := 4) rfl rfl (by decide) rfl (fun ls hl => ?_)
  refine lv_goto (tgt := 74) hx hb dX7_put_133 (by decide) ?_
  exact hK74 used great kind left_ right_ many bits rows table (vp_updL row s1.toNatClampNeg s2) y1 y2 y3 (y4 + 1) _ _ _ h hP hD hS (lv_sub hl [1, 2, 3, 4, 0] rfl)
set_option maxHeartbeats 4000000 in
set_option maxRecDepth 100000 in
theorem w_X7_put_158 (CX : Cx p m c cX7_put 5 s args x0 RX7 meth (some .int)) (hK : va_K D vwCl (ty0 cI cJ cB) s) (hsz : s.heap.size = sz) : ∀ (used : Int32) (great : Int32) (kind : Nat → Int32) (left_ : Nat → Int32) (right_ : Nat → Int32) (many : Nat → Int32) (bits : Nat → Int32) (rows : Nat → Int32) (table : Nat → Int32) (row : Nat → Int64) (s1 : Int32) (H : Heap) (locs : List Loc) (ls : Array Slot), f_X7_put_158 N used great by_ sort variable_ kind left_ right_ many bits rows table row point s1 = some z → va_P D vwCl (ws_X7_put cI cJ cB a0 a_roots a_moved a_text a_out a_above a_below a_sum a_pointRows a_pointSorts a_kind a_left a_right a_many a_bits a_rows a_table a_row a_point thrown used rooted size outSize points takenOut great at_ fault open_ wrong by_ sort variable_ pointCount kind left_ right_ many bits rows table row point) H → va_D (va_A ws0 sz) (ws_X7_put cI cJ cB a0 a_roots a_moved a_text a_out a_above a_below a_sum a_pointRows a_pointSorts a_kind a_left a_right a_many a_bits a_rows a_table a_row a_point thrown used rooted size outSize points takenOut great at_ fault open_ wrong by_ sort variable_ pointCount kind left_ right_ many bits rows table row point) → va_S (va_A ws0 sz) s.heap H locs → lv_has ls 5 [] → W p l e rm_X7_put s m args below meth c H locs 0 0 (MQ below (gQ D sz ws0 (ws_X7_put cI cJ cB a0 a_roots a_moved a_text a_out a_above a_below a_sum a_pointRows a_pointSorts a_kind a_left a_right a_many a_bits a_rows a_table a_row a_point thrown z.2.1 rooted size outSize points takenOut z.2.2.1 at_ fault open_ wrong by_ sort variable_ pointCount z.2.2.2.1 z.2.2.2.2.1 z.2.2.2.2.2.1 z.2.2.2.2.2.2.1 z.2.2.2.2.2.2.2.1 z.2.2.2.2.2.2.2.2.1 z.2.2.2.2.2.2.2.2.2.1 z.2.2.2.2.2.2.2.2.2.2 point) (some (.int z.1))) args s 0 0 (va_A ws0 sz)) (F0 m 158 ls [.int s1, .ref a0]) := by
  obtain ⟨F, hr, hlk, hNw⟩ := id CX
  have hx := F.1
  have hb := F.2.1
  have hown := F.2.2.2.1
  have hA : ∀ q, s.heap.size ≤ q → va_A ws0 sz q := fun q hq => Or.inr (hsz ▸ hq)
  intro used great kind left_ right_ many bits rows table row s1 H locs ls h hP hD hS hl
  unfold f_X7_put_158 at h
  obtain ⟨z158, hz158, h⟩ := o_b h
  refine k_v (wn := (ws_X7_put cI cJ cB a0 a_roots a_moved a_text a_out a_above a_below a_sum a_pointRows a_pointSorts a_kind a_left a_right a_many a_bits a_rows a_table a_row a_point thrown z158.2.1 rooted size outSize points takenOut z158.2.2.1 at_ fault open_ wrong by_ sort variable_ pointCount z158.2.2.2.1 z158.2.2.2.2.1 z158.2.2.2.2.2.1 z158.2.2.2.2.2.2.1 z158.2.2.2.2.2.2.2.1 z158.2.2.2.2.2.2.2.2.1 z158.2.2.2.2.2.2.2.2.2.1 z158.2.2.2.2.2.2.2.2.2.2 point)) (As := [.int s1]) (rest := []) F hNw hK hP hD hS hA (c_X7_atom l D cI cJ cB a0 a_roots a_moved a_text a_out a_above a_below a_sum a_point a_pointRows a_pointSorts a_kind a_left a_right a_many a_bits a_rows a_table a_row _ thrown used rooted size outSize points takenOut great at_ fault open_ wrong by_ sort variable_ pointCount kind left_ right_ many bits rows table row s1 N hz158) wm_1257 cv_X7_atom [0, 1, 2, 3, 4, 5, 6, 7, 8] [9] [1, 2, 3, 4, 5, 6, 7, 8, 9, 0] (⟨rfl, rfl, rfl, by decide, rfl⟩ : Ix [0, 1, 2, 3, 4, 5, 6, 7, 8] [9] [1, 2, 3, 4, 5, 6, 7, 8, 9, 0] 10) rfl (hN_of 1 10 (by decide +kernel) rfl (by decide +kernel) rfl) rfl rfl rfl rfl ⟨rfl, rfl, by decide, by decide⟩ hl.1 rfl (Nat.le_of_ble_eq_true rfl) ⟨Nat.zero_le _, Nat.zero_le _⟩ dX7_put_158 (fun H locs hP hD hS => ?_)
  obtain rfl := Option.some.inj h
  exact r_ret (v := z158.1) F hr hlk rfl dX7_put_161 hsz hP hD hS
set_option maxHeartbeats 4000000 in
set_option maxRecDepth 100000 in
theorem w_X7_put_74 (CX : Cx p m c cX7_put 5 s args x0 RX7 meth (some .int)) (hK : va_K D vwCl (ty0 cI cJ cB) s) (hsz : s.heap.size = sz) : ∀ (n : Nat), ∀ (used : Int32) (great : Int32) (kind : Nat → Int32) (left_ : Nat → Int32) (right_ : Nat → Int32) (many : Nat → Int32) (bits : Nat → Int32) (rows : Nat → Int32) (table : Nat → Int32) (row : Nat → Int64) (y1 : Int32) (y2 : Int32) (y3 : Int32) (y4 : Int32) (H : Heap) (locs : List Loc) (ls : Array Slot), f_X7_put_74 N n used great by_ sort variable_ kind left_ right_ many bits rows table row point y1 y2 y3 y4 = some z → va_P D vwCl (ws_X7_put cI cJ cB a0 a_roots a_moved a_text a_out a_above a_below a_sum a_pointRows a_pointSorts a_kind a_left a_right a_many a_bits a_rows a_table a_row a_point thrown used rooted size outSize points takenOut great at_ fault open_ wrong by_ sort variable_ pointCount kind left_ right_ many bits rows table row point) H → va_D (va_A ws0 sz) (ws_X7_put cI cJ cB a0 a_roots a_moved a_text a_out a_above a_below a_sum a_pointRows a_pointSorts a_kind a_left a_right a_many a_bits a_rows a_table a_row a_point thrown used rooted size outSize points takenOut great at_ fault open_ wrong by_ sort variable_ pointCount kind left_ right_ many bits rows table row point) → va_S (va_A ws0 sz) s.heap H locs → lv_has ls 5 [(0, .ref a0), (1, .int y1), (2, .int y2), (3, .int y3), (4, .int y4)] → W p l e rm_X7_put s m args below meth c H locs 0 0 (MQ below (gQ D sz ws0 (ws_X7_put cI cJ cB a0 a_roots a_moved a_text a_out a_above a_below a_sum a_pointRows a_pointSorts a_kind a_left a_right a_many a_bits a_rows a_table a_row a_point thrown z.2.1 rooted size outSize points takenOut z.2.2.1 at_ fault open_ wrong by_ sort variable_ pointCount z.2.2.2.1 z.2.2.2.2.1 z.2.2.2.2.2.1 z.2.2.2.2.2.2.1 z.2.2.2.2.2.2.2.1 z.2.2.2.2.2.2.2.2.1 z.2.2.2.2.2.2.2.2.2.1 z.2.2.2.2.2.2.2.2.2.2 point) (some (.int z.1))) args s 0 0 (va_A ws0 sz)) (F0 m 74 ls []) := by
  obtain ⟨F, hr, hlk, hNw⟩ := id CX
  have hx := F.1
  have hb := F.2.1
  have hown := F.2.2.2.1
  have hA : ∀ q, s.heap.size ≤ q → va_A ws0 sz q := fun q hq => Or.inr (hsz ▸ hq)
  intro n
  induction n with
  | zero =>
    intro used great kind left_ right_ many bits rows table row y1 y2 y3 y4 H locs ls h
    cases h
  | succ n ih =>
    intro used great kind left_ right_ many bits rows table row y1 y2 y3 y4 H locs ls h hP hD hS hl
    unfold f_X7_put_74 at h
    refine lv_iload hx hb dX7_put_74 (lv_at hl 4 rfl) ?_
    refine lv_bipush (v := 9) hx hb dX7_put_76 (by decide) ?_
    refine lv_icmp_ge (tgt := 136) hx hb dX7_put_78 (by decide) (fun c78 => ?_) (fun c78 => ?_)
    · have h := o_t c78 h
      refine lv_aload_n hx hb dX7_put_136 rfl (lv_at hl 0 rfl) ?_
      refine lv_aload_n hx hb dX7_put_137 rfl (lv_at hl 0 rfl) ?_
      refine r_get F hK hP 0 29 rfl inW_X7 wm_1121 rfl (by decide) rfl dX7_put_138 ?_
      refine lv_iconst (v := 1) hx hb dX7_put_141 (by decide) ?_
      refine lv_icmp_ne (tgt := 149) hx hb dX7_put_142 (by decide) (fun c142 => ?_) (fun c142 => ?_)
      · have h := o_f c142 h
        refine lv_iload_n hx hb dX7_put_149 rfl (lv_at hl 2 rfl) ?_
        refine lv_if_le (tgt := 157) hx hb dX7_put_150 (by decide) (fun c150 => ?_) (fun c150 => ?_)
        · have h := o_t c150 h
          refine lv_iconst (v := 3) hx hb dX7_put_157 (by decide) ?_
          exact w_X7_put_158 CX hK hsz used great kind left_ right_ many bits rows table row 3 _ _ _ h hP hD hS (lv_sub hl [] rfl)
        · have h := o_f c150 h
          refine lv_iconst (v := 2) hx hb dX7_put_153 (by decide) ?_
          refine lv_goto (tgt := 158) hx hb dX7_put_154 (by decide) ?_
          exact w_X7_put_158 CX hK hsz used great kind left_ right_ many bits rows table row 2 _ _ _ h hP hD hS (lv_sub hl [] rfl)
      · have h := o_t c142 h
        refine lv_iload_n hx hb dX7_put_145 rfl (lv_at hl 3 rfl) ?_
        refine lv_goto (tgt := 158) hx hb dX7_put_146 (by decide) ?_
        exact w_X7_put_158 CX hK hsz used great kind left_ right_ many bits rows table row y3 _ _ _ h hP hD hS (lv_sub hl [] rfl)
    · have h := o_f c78 h
      refine lv_aload_n hx hb dX7_put_81 rfl (lv_at hl 0 rfl) ?_
      refine r_get F hK hP 0 21 rfl inW_X7 wm_1113 rfl (by decide) rfl dX7_put_82 ?_
      refine lv_iload hx hb dX7_put_85 (lv_at hl 4 rfl) ?_
      refine lv_iload hx hb dX7_put_87 (lv_at hl 4 rfl) ?_
      refine lv_aload_n hx hb dX7_put_89 rfl (lv_at hl 0 rfl) ?_
      refine r_get F hK hP 0 30 rfl inW_X7 wm_1122 rfl (by decide) rfl dX7_put_90 ?_
      refine lv_icmp_ne (tgt := 100) hx hb dX7_put_93 (by decide) (fun c93 => ?_) (fun c93 => ?_)
      · have h := o_f c93 h
        refine lv_aload_n hx hb dX7_put_100 rfl (lv_at hl 0 rfl) ?_
        refine r_get F hK hP 0 28 rfl inW_X7 wm_1120 rfl (by decide) rfl dX7_put_101 ?_
        refine lv_aload_n hx hb dX7_put_104 rfl (lv_at hl 0 rfl) ?_
        refine r_get F hK hP 0 6 rfl inW_X7 wm_1098 rfl (by decide) rfl dX7_put_105 ?_
        refine lv_bipush (v := 9) hx hb dX7_put_108 (by decide) ?_
        refine lv_iload_n hx hb dX7_put_110 rfl (lv_at hl 1 rfl) ?_
        refine lv_imul hx hb dX7_put_111 ?_
        refine lv_iload hx hb dX7_put_112 (lv_at hl 4 rfl) ?_
        refine lv_iadd hx hb dX7_put_114 ?_
        obtain ⟨hi115, h⟩ := o_ix h
        refine va_iald hx hb hK hP 6 0 rfl rfl hi115 dX7_put_115 ?_
        refine lv_i2l hx hb dX7_put_116 rfl ?_
        refine lv_lmul hx hb dX7_put_117 ?_
        refine lv_iload_n hx hb dX7_put_118 rfl (lv_at hl 2 rfl) ?_
        refine lv_i2l hx hb dX7_put_119 rfl ?_
        refine lv_aload_n hx hb dX7_put_120 rfl (lv_at hl 0 rfl) ?_
        refine r_get F hK hP 0 27 rfl inW_X7 wm_1119 rfl (by decide) rfl dX7_put_121 ?_
        refine lv_iload hx hb dX7_put_124 (lv_at hl 4 rfl) ?_
        obtain ⟨hi126, h⟩ := o_ix h
        refine va_lald hx hb hK hP 9 1 rfl rfl hi126 dX7_put_126 ?_
        refine lv_lmul hx hb dX7_put_127 ?_
        refine lv_lsub hx hb dX7_put_128 ?_
        exact w_X7_put_129 CX hK hsz (hK74 := ih) used great kind left_ right_ many bits rows table row y1 y2 y3 y4 y4 ((by_ * ((rows ((9 * y1) + y4).toNatClampNeg).toInt64)) - (y2.toInt64 * (point y4.toNatClampNeg))) _ _ _ h hP hD hS (lv_sub hl [0, 1, 2, 3, 4] rfl)
      · have h := o_t c93 h
        refine lv_lconst (v := 0) hx hb dX7_put_96 (by decide) ?_
        refine lv_goto (tgt := 129) hx hb dX7_put_97 (by decide) ?_
        exact w_X7_put_129 CX hK hsz (hK74 := ih) used great kind left_ right_ many bits rows table row y1 y2 y3 y4 y4 0 _ _ _ h hP hD hS (lv_sub hl [0, 1, 2, 3, 4] rfl)
set_option maxHeartbeats 4000000 in
set_option maxRecDepth 100000 in
theorem w_X7_put_50 (CX : Cx p m c cX7_put 5 s args x0 RX7 meth (some .int)) (hK : va_K D vwCl (ty0 cI cJ cB) s) (hsz : s.heap.size = sz) : ∀ (used : Int32) (great : Int32) (kind : Nat → Int32) (left_ : Nat → Int32) (right_ : Nat → Int32) (many : Nat → Int32) (bits : Nat → Int32) (rows : Nat → Int32) (table : Nat → Int32) (row : Nat → Int64) (y1 : Int32) (y2 : Int32) (y3 : Int32) (H : Heap) (locs : List Loc) (ls : Array Slot), f_X7_put_50 N used great by_ sort variable_ kind left_ right_ many bits rows table row point y1 y2 y3 = some z → va_P D vwCl (ws_X7_put cI cJ cB a0 a_roots a_moved a_text a_out a_above a_below a_sum a_pointRows a_pointSorts a_kind a_left a_right a_many a_bits a_rows a_table a_row a_point thrown used rooted size outSize points takenOut great at_ fault open_ wrong by_ sort variable_ pointCount kind left_ right_ many bits rows table row point) H → va_D (va_A ws0 sz) (ws_X7_put cI cJ cB a0 a_roots a_moved a_text a_out a_above a_below a_sum a_pointRows a_pointSorts a_kind a_left a_right a_many a_bits a_rows a_table a_row a_point thrown used rooted size outSize points takenOut great at_ fault open_ wrong by_ sort variable_ pointCount kind left_ right_ many bits rows table row point) → va_S (va_A ws0 sz) s.heap H locs → lv_has ls 5 [(0, .ref a0), (1, .int y1), (2, .int y2), (3, .int y3)] → W p l e rm_X7_put s m args below meth c H locs 0 0 (MQ below (gQ D sz ws0 (ws_X7_put cI cJ cB a0 a_roots a_moved a_text a_out a_above a_below a_sum a_pointRows a_pointSorts a_kind a_left a_right a_many a_bits a_rows a_table a_row a_point thrown z.2.1 rooted size outSize points takenOut z.2.2.1 at_ fault open_ wrong by_ sort variable_ pointCount z.2.2.2.1 z.2.2.2.2.1 z.2.2.2.2.2.1 z.2.2.2.2.2.2.1 z.2.2.2.2.2.2.2.1 z.2.2.2.2.2.2.2.2.1 z.2.2.2.2.2.2.2.2.2.1 z.2.2.2.2.2.2.2.2.2.2 point) (some (.int z.1))) args s 0 0 (va_A ws0 sz)) (F0 m 50 ls []) := by
  obtain ⟨F, hr, hlk, hNw⟩ := id CX
  have hx := F.1
  have hb := F.2.1
  have hown := F.2.2.2.1
  have hA : ∀ q, s.heap.size ≤ q → va_A ws0 sz q := fun q hq => Or.inr (hsz ▸ hq)
  intro used great kind left_ right_ many bits rows table row y1 y2 y3 H locs ls h hP hD hS hl
  unfold f_X7_put_50 at h
  refine lv_aload_n hx hb dX7_put_50 rfl (lv_at hl 0 rfl) ?_
  refine r_get F hK hP 0 29 rfl inW_X7 wm_1121 rfl (by decide) rfl dX7_put_51 ?_
  refine lv_if_ne (tgt := 71) hx hb dX7_put_54 (by decide) (fun c54 => ?_) (fun c54 => ?_)
  · have h := o_f c54 h
    refine lv_iconst (v := 0) hx hb dX7_put_71 (by decide) ?_
    refine lv_istore (lv' := [(4, .int 0), (0, .ref a0), (1, .int y1), (2, .int y2), (3, .int y3)]) hx hb dX7_put_72 hl (by decide) rfl (fun ls hl => ?_)
    exact w_X7_put_74 CX hK hsz N used great kind left_ right_ many bits rows table row y1 y2 y3 0 _ _ _ h hP hD hS (lv_sub hl [1, 2, 3, 4, 0] rfl)
  · have h := o_t c54 h
    refine lv_aload_n hx hb dX7_put_57 rfl (lv_at hl 0 rfl) ?_
    refine lv_iload_n hx hb dX7_put_58 rfl (lv_at hl 2 rfl) ?_
    refine lv_if_le (tgt := 66) hx hb dX7_put_59 (by decide) (fun c59 => ?_) (fun c59 => ?_)
    · have h := o_t c59 h
      refine lv_iconst (v := 0) hx hb dX7_put_66 (by decide) ?_
      exact w_X7_put_67 CX hK hsz used great kind left_ right_ many bits rows table row 0 _ _ _ h hP hD hS (lv_sub hl [] rfl)
    · have h := o_f c59 h
      refine lv_iconst (v := 1) hx hb dX7_put_62 (by decide) ?_
      refine lv_goto (tgt := 67) hx hb dX7_put_63 (by decide) ?_
      exact w_X7_put_67 CX hK hsz used great kind left_ right_ many bits rows table row 1 _ _ _ h hP hD hS (lv_sub hl [] rfl)
end G_X7_put
set_option maxHeartbeats 4000000 in
set_option maxRecDepth 100000 in
theorem c_X7_put (l : Launch) (D : va_G) (cI cJ cB : ClassId) (a0 a_roots a_moved a_text a_out a_above a_below a_sum a_pointRows a_pointSorts a_kind a_left a_right a_many a_bits a_rows a_table a_row a_point : Nat) (sz : Nat) (thrown : Int32) (used : Int32) (rooted : Int32) (size : Int32) (outSize : Int32) (points : Int32) (takenOut : Int32) (great : Int32) (at_ : Int32) (fault : Int32) (open_ : Int32) (wrong : Int32) (by_ : Int64) (sort : Int32) (variable_ : Int32) (pointCount : Int32) (kind : Nat → Int32) (left_ : Nat → Int32) (right_ : Nat → Int32) (many : Nat → Int32) (bits : Nat → Int32) (rows : Nat → Int32) (table : Nat → Int32) (row : Nat → Int64) (point : Nat → Int64) (x1 : Int32) (N : Nat) {z : Int32 × (Int32) × (Int32) × (Nat → Int32) × (Nat → Int32) × (Nat → Int32) × (Nat → Int32) × (Nat → Int32) × (Nat → Int32) × (Nat → Int32) × (Nat → Int64)} (h : f_X7_put N used great by_ sort variable_ kind left_ right_ many bits rows table row point x1 = some z) : Mg l yX7_put cX7_put 5 (some .int) rm_X7_put D (ty0 cI cJ cB) [.ref a0, .int x1] sz (ws_X7_put cI cJ cB a0 a_roots a_moved a_text a_out a_above a_below a_sum a_pointRows a_pointSorts a_kind a_left a_right a_many a_bits a_rows a_table a_row a_point thrown used rooted size outSize points takenOut great at_ fault open_ wrong by_ sort variable_ pointCount kind left_ right_ many bits rows table row point) (some (.int z.1)) (ws_X7_put cI cJ cB a0 a_roots a_moved a_text a_out a_above a_below a_sum a_pointRows a_pointSorts a_kind a_left a_right a_many a_bits a_rows a_table a_row a_point thrown z.2.1 rooted size outSize points takenOut z.2.2.1 at_ fault open_ wrong by_ sort variable_ pointCount z.2.2.2.1 z.2.2.2.2.1 z.2.2.2.2.2.1 z.2.2.2.2.2.2.1 z.2.2.2.2.2.2.2.1 z.2.2.2.2.2.2.2.2.1 z.2.2.2.2.2.2.2.2.2.1 z.2.2.2.2.2.2.2.2.2.2 point) := by
  refine Mg.of (by decide) (Nat.le_of_ble_eq_true rfl) ?_
  intro p e s m below meth c CX hK hsz hP hD ls hl
  have CX : Cx p m c cX7_put 5 s ([.ref a0, .int x1] : List Value).toArray (Cond.code yX7_put cX7_put 5 (some .int)) RX7 meth (some .int) := CX
  obtain ⟨F, hr, hlk, hNw⟩ := id CX
  have hx := F.1
  have hb := F.2.1
  have hown := F.2.2.2.1
  have hl : lv_has ls 5 [(0, .ref a0), (1, .int x1)] := hl
  have hS : va_S (va_A (ws_X7_put cI cJ cB a0 a_roots a_moved a_text a_out a_above a_below a_sum a_pointRows a_pointSorts a_kind a_left a_right a_many a_bits a_rows a_table a_row a_point thrown used rooted size outSize points takenOut great at_ fault open_ wrong by_ sort variable_ pointCount kind left_ right_ many bits rows table row point) sz) s.heap s.heap [] := va_S.rf
  have hA : ∀ q, s.heap.size ≤ q → va_A (ws_X7_put cI cJ cB a0 a_roots a_moved a_text a_out a_above a_below a_sum a_pointRows a_pointSorts a_kind a_left a_right a_many a_bits a_rows a_table a_row a_point thrown used rooted size outSize points takenOut great at_ fault open_ wrong by_ sort variable_ pointCount kind left_ right_ many bits rows table row point) sz q := fun q hq => Or.inr (hsz ▸ hq)
  unfold f_X7_put at h
  refine lv_aload_n hx hb dX7_put_0 rfl (lv_at hl 0 rfl) ?_
  refine r_get F hK hP 0 6 rfl inW_X7 wm_1098 rfl (by decide) rfl dX7_put_1 ?_
  refine lv_bipush (v := 9) hx hb dX7_put_4 (by decide) ?_
  refine lv_iload_n hx hb dX7_put_6 rfl (lv_at hl 1 rfl) ?_
  refine lv_imul hx hb dX7_put_7 ?_
  refine lv_aload_n hx hb dX7_put_8 rfl (lv_at hl 0 rfl) ?_
  refine r_get F hK hP 0 30 rfl inW_X7 wm_1122 rfl (by decide) rfl dX7_put_9 ?_
  refine lv_iadd hx hb dX7_put_12 ?_
  obtain ⟨hi13, h⟩ := o_ix h
  refine va_iald hx hb hK hP 6 0 rfl rfl hi13 dX7_put_13 ?_
  refine lv_istore_n (lv' := [(2, .int (rows ((9 * x1) + variable_).toNatClampNeg)), (0, .ref a0), (1, .int x1)]) hx hb dX7_put_14 rfl hl (by decide) rfl (fun ls hl => ?_)
  refine lv_aload_n hx hb dX7_put_15 rfl (lv_at hl 1 rfl) ?_
  refine r_get F hK hP 0 2 rfl inW_X7 wm_1094 rfl (by decide) rfl dX7_put_16 ?_
  refine lv_iload_n hx hb dX7_put_19 rfl (lv_at hl 2 rfl) ?_
  obtain ⟨hi20, h⟩ := o_ix h
  refine va_iald hx hb hK hP 2 0 rfl rfl hi20 dX7_put_20 ?_
  refine lv_istore_n (lv' := [(3, .int (left_ x1.toNatClampNeg)), (2, .int (rows ((9 * x1) + variable_).toNatClampNeg)), (0, .ref a0), (1, .int x1)]) hx hb dX7_put_21 rfl hl (by decide) rfl (fun ls hl => ?_)
  refine lv_aload_n hx hb dX7_put_22 rfl (lv_at hl 2 rfl) ?_
  refine r_get F hK hP 0 29 rfl inW_X7 wm_1121 rfl (by decide) rfl dX7_put_23 ?_
  refine lv_iconst (v := 1) hx hb dX7_put_26 (by decide) ?_
  refine lv_icmp_eq (tgt := 50) hx hb dX7_put_27 (by decide) (fun c27 => ?_) (fun c27 => ?_)
  · have h := o_t c27 h
    exact w_X7_put_50 CX hK hsz used great kind left_ right_ many bits rows table row x1 (rows ((9 * x1) + variable_).toNatClampNeg) (left_ x1.toNatClampNeg) _ _ _ h hP hD hS (lv_sub hl [2, 3, 1, 0] rfl)
  · have h := o_f c27 h
    refine lv_iload_n hx hb dX7_put_30 rfl (lv_at hl 0 rfl) ?_
    refine lv_iconst (v := 2) hx hb dX7_put_31 (by decide) ?_
    refine lv_icmp_ge (tgt := 50) hx hb dX7_put_32 (by decide) (fun c32 => ?_) (fun c32 => ?_)
    · have h := o_t c32 h
      exact w_X7_put_50 CX hK hsz used great kind left_ right_ many bits rows table row x1 (rows ((9 * x1) + variable_).toNatClampNeg) (left_ x1.toNatClampNeg) _ _ _ h hP hD hS (lv_sub hl [2, 3, 1, 0] rfl)
    · have h := o_f c32 h
      refine lv_aload_n hx hb dX7_put_35 rfl (lv_at hl 2 rfl) ?_
      refine lv_iload_n hx hb dX7_put_36 rfl (lv_at hl 0 rfl) ?_
      refine lv_iconst (v := 1) hx hb dX7_put_37 (by decide) ?_
      refine lv_icmp_ne (tgt := 45) hx hb dX7_put_38 (by decide) (fun c38 => ?_) (fun c38 => ?_)
      · have h := o_f c38 h
        refine lv_iconst (v := 0) hx hb dX7_put_45 (by decide) ?_
        exact w_X7_put_46 CX hK hsz used great kind left_ right_ many bits rows table row 0 _ _ _ h hP hD hS (lv_sub hl [] rfl)
      · have h := o_t c38 h
        refine lv_iconst (v := 1) hx hb dX7_put_41 (by decide) ?_
        refine lv_goto (tgt := 46) hx hb dX7_put_42 (by decide) ?_
        exact w_X7_put_46 CX hK hsz used great kind left_ right_ many bits rows table row 1 _ _ _ h hP hD hS (lv_sub hl [] rfl)
section G_X7_beginFreed
abbrev ws_X7_beginFreed (cI cJ cB : ClassId) (a0 a_kind a_left a_right a_many a_bits a_rows a_table a_roots a_moved a_text a_out a_above a_below a_row a_sum a_point a_pointRows a_pointSorts : Nat) (thrown : Int32) (used : Int32) (rooted : Int32) (size : Int32) (outSize : Int32) (points : Int32) (takenOut : Int32) (great : Int32) (at_ : Int32) (fault : Int32) (open_ : Int32) (wrong : Int32) (by_ : Int64) (sort : Int32) (variable_ : Int32) (pointCount : Int32) : va_W := [(a0, .inr (9, [.int thrown, .ref a_kind, .ref a_left, .ref a_right, .ref a_many, .ref a_bits, .ref a_rows, .ref a_table, .int used, .ref a_roots, .int rooted, .ref a_moved, .ref a_text, .int size, .ref a_out, .int outSize, .ref a_above, .ref a_below, .int points, .int takenOut, .int great, .ref a_row, .int at_, .int fault, .int open_, .int wrong, .ref a_sum, .ref a_point, .long by_, .int sort, .int variable_, .ref a_pointRows, .ref a_pointSorts, .int pointCount]))]
abbrev rm_X7_beginFreed : Room := { frames := 0, cells := 0, slots := 0, locals := 0 }
def f_X7_beginFreed (N : Nat) (points : Int32) (takenOut : Int32) (great : Int32) (pointCount : Int32) : Option ((Int32) × (Int32) × (Int32) × (Int32)) := some (0, 0, 0, 0)
variable {p : Program} {l : Launch} {e : Env} {s : State} {m : MethodId} {below : List Frame} {meth : Method} {c : Code} {args : Array Value} {x0 : Cond} {D : va_G} {cI cJ cB : ClassId} {sz N : Nat} {ws0 : va_W} {a0 a_kind a_left a_right a_many a_bits a_rows a_table a_roots a_moved a_text a_out a_above a_below a_row a_sum a_point a_pointRows a_pointSorts : Nat} {thrown : Int32} {used : Int32} {rooted : Int32} {size : Int32} {outSize : Int32} {at_ : Int32} {fault : Int32} {open_ : Int32} {wrong : Int32} {by_ : Int64} {sort : Int32} {variable_ : Int32} {z : (Int32) × (Int32) × (Int32) × (Int32)}
end G_X7_beginFreed
set_option maxHeartbeats 4000000 in
set_option maxRecDepth 100000 in
theorem c_X7_beginFreed (l : Launch) (D : va_G) (cI cJ cB : ClassId) (a0 a_kind a_left a_right a_many a_bits a_rows a_table a_roots a_moved a_text a_out a_above a_below a_row a_sum a_point a_pointRows a_pointSorts : Nat) (sz : Nat) (thrown : Int32) (used : Int32) (rooted : Int32) (size : Int32) (outSize : Int32) (points : Int32) (takenOut : Int32) (great : Int32) (at_ : Int32) (fault : Int32) (open_ : Int32) (wrong : Int32) (by_ : Int64) (sort : Int32) (variable_ : Int32) (pointCount : Int32) (N : Nat) {z : (Int32) × (Int32) × (Int32) × (Int32)} (h : f_X7_beginFreed N points takenOut great pointCount = some z) : Mg l yX7_beginFreed cX7_beginFreed 1 none rm_X7_beginFreed D (ty0 cI cJ cB) [.ref a0] sz (ws_X7_beginFreed cI cJ cB a0 a_kind a_left a_right a_many a_bits a_rows a_table a_roots a_moved a_text a_out a_above a_below a_row a_sum a_point a_pointRows a_pointSorts thrown used rooted size outSize points takenOut great at_ fault open_ wrong by_ sort variable_ pointCount) none (ws_X7_beginFreed cI cJ cB a0 a_kind a_left a_right a_many a_bits a_rows a_table a_roots a_moved a_text a_out a_above a_below a_row a_sum a_point a_pointRows a_pointSorts thrown used rooted size outSize z.1 z.2.1 z.2.2.1 at_ fault open_ wrong by_ sort variable_ z.2.2.2) := by
  refine Mg.of (by decide) (Nat.le_of_ble_eq_true rfl) ?_
  intro p e s m below meth c CX hK hsz hP hD ls hl
  have CX : Cx p m c cX7_beginFreed 1 s ([.ref a0] : List Value).toArray (Cond.code yX7_beginFreed cX7_beginFreed 1 none) RX7 meth none := CX
  obtain ⟨F, hr, hlk, hNw⟩ := id CX
  have hx := F.1
  have hb := F.2.1
  have hown := F.2.2.2.1
  have hl : lv_has ls 1 [(0, .ref a0)] := hl
  have hS : va_S (va_A (ws_X7_beginFreed cI cJ cB a0 a_kind a_left a_right a_many a_bits a_rows a_table a_roots a_moved a_text a_out a_above a_below a_row a_sum a_point a_pointRows a_pointSorts thrown used rooted size outSize points takenOut great at_ fault open_ wrong by_ sort variable_ pointCount) sz) s.heap s.heap [] := va_S.rf
  have hA : ∀ q, s.heap.size ≤ q → va_A (ws_X7_beginFreed cI cJ cB a0 a_kind a_left a_right a_many a_bits a_rows a_table a_roots a_moved a_text a_out a_above a_below a_row a_sum a_point a_pointRows a_pointSorts thrown used rooted size outSize points takenOut great at_ fault open_ wrong by_ sort variable_ pointCount) sz q := fun q hq => Or.inr (hsz ▸ hq)
  unfold f_X7_beginFreed at h
  refine lv_aload_n hx hb dX7_beginFreed_0 rfl (lv_at hl 0 rfl) ?_
  refine lv_iconst (v := 0) hx hb dX7_beginFreed_1 (by decide) ?_
  refine r_put (wn := (ws_X7_beginFreed cI cJ cB a0 a_kind a_left a_right a_many a_bits a_rows a_table a_roots a_moved a_text a_out a_above a_below a_row a_sum a_point a_pointRows a_pointSorts thrown used rooted size outSize points takenOut 0 at_ fault open_ wrong by_ sort variable_ pointCount)) F hK hP hD hS 0 20 rfl inW_X7 wm_1112 tyX7_ok nmX7 rfl rfl (by decide) rfl rfl (Nat.le_of_ble_eq_true rfl) rfl dX7_beginFreed_2 (fun H locs hP hD hS => ?_)
  refine lv_aload_n hx hb dX7_beginFreed_5 rfl (lv_at hl 0 rfl) ?_
  refine lv_iconst (v := 0) hx hb dX7_beginFreed_6 (by decide) ?_
  refine r_put (wn := (ws_X7_beginFreed cI cJ cB a0 a_kind a_left a_right a_many a_bits a_rows a_table a_roots a_moved a_text a_out a_above a_below a_row a_sum a_point a_pointRows a_pointSorts thrown used rooted size outSize 0 takenOut 0 at_ fault open_ wrong by_ sort variable_ pointCount)) F hK hP hD hS 0 18 rfl inW_X7 wm_1110 tyX7_ok nmX7 rfl rfl (by decide) rfl rfl (Nat.le_of_ble_eq_true rfl) rfl dX7_beginFreed_7 (fun H locs hP hD hS => ?_)
  refine lv_aload_n hx hb dX7_beginFreed_10 rfl (lv_at hl 0 rfl) ?_
  refine lv_iconst (v := 0) hx hb dX7_beginFreed_11 (by decide) ?_
  refine r_put (wn := (ws_X7_beginFreed cI cJ cB a0 a_kind a_left a_right a_many a_bits a_rows a_table a_roots a_moved a_text a_out a_above a_below a_row a_sum a_point a_pointRows a_pointSorts thrown used rooted size outSize 0 0 0 at_ fault open_ wrong by_ sort variable_ pointCount)) F hK hP hD hS 0 19 rfl inW_X7 wm_1111 tyX7_ok nmX7 rfl rfl (by decide) rfl rfl (Nat.le_of_ble_eq_true rfl) rfl dX7_beginFreed_12 (fun H locs hP hD hS => ?_)
  refine lv_aload_n hx hb dX7_beginFreed_15 rfl (lv_at hl 0 rfl) ?_
  refine lv_iconst (v := 0) hx hb dX7_beginFreed_16 (by decide) ?_
  refine r_put (wn := (ws_X7_beginFreed cI cJ cB a0 a_kind a_left a_right a_many a_bits a_rows a_table a_roots a_moved a_text a_out a_above a_below a_row a_sum a_point a_pointRows a_pointSorts thrown used rooted size outSize 0 0 0 at_ fault open_ wrong by_ sort variable_ 0)) F hK hP hD hS 0 33 rfl inW_X7 wm_1125 tyX7_ok nmX7 rfl rfl (by decide) rfl rfl (Nat.le_of_ble_eq_true rfl) rfl dX7_beginFreed_17 (fun H locs hP hD hS => ?_)
  obtain rfl := Option.some.inj h
  exact r_vret F hr hlk dX7_beginFreed_20 hsz hP hD hS
section G_X7_value
abbrev ws_X7_value (cI cJ cB : ClassId) (a0 a_kind a_left a_right a_many a_bits a_rows a_table a_roots a_moved a_text a_out a_row a_sum a_point a_pointRows a_pointSorts a_above a_below : Nat) (thrown : Int32) (used : Int32) (rooted : Int32) (size : Int32) (outSize : Int32) (points : Int32) (takenOut : Int32) (great : Int32) (at_ : Int32) (fault : Int32) (open_ : Int32) (wrong : Int32) (by_ : Int64) (sort : Int32) (variable_ : Int32) (pointCount : Int32) (above : Nat → Int32) (below_ : Nat → Int32) : va_W := [(a0, .inr (9, [.int thrown, .ref a_kind, .ref a_left, .ref a_right, .ref a_many, .ref a_bits, .ref a_rows, .ref a_table, .int used, .ref a_roots, .int rooted, .ref a_moved, .ref a_text, .int size, .ref a_out, .int outSize, .ref a_above, .ref a_below, .int points, .int takenOut, .int great, .ref a_row, .int at_, .int fault, .int open_, .int wrong, .ref a_sum, .ref a_point, .long by_, .int sort, .int variable_, .ref a_pointRows, .ref a_pointSorts, .int pointCount])), (a_above, .inl (cI, 8, .inl above)), (a_below, .inl (cI, 8, .inl below_))]
abbrev rm_X7_value : Room := { frames := 0, cells := 0, slots := 0, locals := 0 }
def f_X7_value_63 (N : Nat) (thrown : Int32) (above : Nat → Int32) (below_ : Nat → Int32) : Option ((Int32) × (Nat → Int32) × (Nat → Int32)) := some (thrown, above, below_)
def f_X7_value_39 (N : Nat) (thrown : Int32) (above : Nat → Int32) (below_ : Nat → Int32) (y1 : Int32) (y2 : Int32) (y3 : Int32) (s1 : Int32) : Option ((Int32) × (Nat → Int32) × (Nat → Int32)) := ifb (s1 = 0) (ix y1 8 (ix y1 8 (f_X7_value_63 N s1 (upd above y1.toNatClampNeg y2) (upd below_ y1.toNatClampNeg y3)))) (f_X7_value_63 N s1 above below_)
def f_X7_value_34 (N : Nat) (thrown : Int32) (above : Nat → Int32) (below_ : Nat → Int32) (y1 : Int32) (y2 : Int32) (y3 : Int32) : Option ((Int32) × (Nat → Int32) × (Nat → Int32)) := f_X7_value_39 N thrown above below_ y1 y2 y3 1
def f_X7_value (N : Nat) (thrown : Int32) (above : Nat → Int32) (below_ : Nat → Int32) (x1 : Int32) (x2 : Int32) (x3 : Int32) : Option ((Int32) × (Nat → Int32) × (Nat → Int32)) := ifb (x1 < 0) (f_X7_value_34 N thrown above below_ x1 x2 x3) (ifb (7 < x1) (f_X7_value_34 N thrown above below_ x1 x2 x3) (ifb (x2 < (-99)) (f_X7_value_34 N thrown above below_ x1 x2 x3) (ifb (99 < x2) (f_X7_value_34 N thrown above below_ x1 x2 x3) (ifb (x3 < 1) (f_X7_value_34 N thrown above below_ x1 x2 x3) (ifb (x3 ≤ 9) (f_X7_value_39 N thrown above below_ x1 x2 x3 0) (f_X7_value_34 N thrown above below_ x1 x2 x3))))))
variable {p : Program} {l : Launch} {e : Env} {s : State} {m : MethodId} {below : List Frame} {meth : Method} {c : Code} {args : Array Value} {x0 : Cond} {D : va_G} {cI cJ cB : ClassId} {sz N : Nat} {ws0 : va_W} {a0 a_kind a_left a_right a_many a_bits a_rows a_table a_roots a_moved a_text a_out a_row a_sum a_point a_pointRows a_pointSorts a_above a_below : Nat} {used : Int32} {rooted : Int32} {size : Int32} {outSize : Int32} {points : Int32} {takenOut : Int32} {great : Int32} {at_ : Int32} {fault : Int32} {open_ : Int32} {wrong : Int32} {by_ : Int64} {sort : Int32} {variable_ : Int32} {pointCount : Int32} {z : (Int32) × (Nat → Int32) × (Nat → Int32)}
set_option maxHeartbeats 4000000 in
set_option maxRecDepth 100000 in
theorem w_X7_value_63 (CX : Cx p m c cX7_value 4 s args x0 RX7 meth none) (hK : va_K D vwCl (ty0 cI cJ cB) s) (hsz : s.heap.size = sz) : ∀ (thrown : Int32) (above : Nat → Int32) (below_ : Nat → Int32) (H : Heap) (locs : List Loc) (ls : Array Slot), f_X7_value_63 N thrown above below_ = some z → va_P D vwCl (ws_X7_value cI cJ cB a0 a_kind a_left a_right a_many a_bits a_rows a_table a_roots a_moved a_text a_out a_row a_sum a_point a_pointRows a_pointSorts a_above a_below thrown used rooted size outSize points takenOut great at_ fault open_ wrong by_ sort variable_ pointCount above below_) H → va_D (va_A ws0 sz) (ws_X7_value cI cJ cB a0 a_kind a_left a_right a_many a_bits a_rows a_table a_roots a_moved a_text a_out a_row a_sum a_point a_pointRows a_pointSorts a_above a_below thrown used rooted size outSize points takenOut great at_ fault open_ wrong by_ sort variable_ pointCount above below_) → va_S (va_A ws0 sz) s.heap H locs → lv_has ls 4 [] → W p l e rm_X7_value s m args below meth c H locs 0 0 (MQ below (gQ D sz ws0 (ws_X7_value cI cJ cB a0 a_kind a_left a_right a_many a_bits a_rows a_table a_roots a_moved a_text a_out a_row a_sum a_point a_pointRows a_pointSorts a_above a_below z.1 used rooted size outSize points takenOut great at_ fault open_ wrong by_ sort variable_ pointCount z.2.1 z.2.2) none) args s 0 0 (va_A ws0 sz)) (F0 m 63 ls []) := by
  obtain ⟨F, hr, hlk, hNw⟩ := id CX
  have hx := F.1
  have hb := F.2.1
  have hown := F.2.2.2.1
  have hA : ∀ q, s.heap.size ≤ q → va_A ws0 sz q := fun q hq => Or.inr (hsz ▸ hq)
  intro thrown above below_ H locs ls h hP hD hS hl
  unfold f_X7_value_63 at h
  obtain rfl := Option.some.inj h
  exact r_vret F hr hlk dX7_value_63 hsz hP hD hS
set_option maxHeartbeats 4000000 in
set_option maxRecDepth 100000 in
theorem w_X7_value_39 (CX : Cx p m c cX7_value 4 s args x0 RX7 meth none) (hK : va_K D vwCl (ty0 cI cJ cB) s) (hsz : s.heap.size = sz) : ∀ (thrown : Int32) (above : Nat → Int32) (below_ : Nat → Int32) (y1 : Int32) (y2 : Int32) (y3 : Int32) (s1 : Int32) (H : Heap) (locs : List Loc) (ls : Array Slot), f_X7_value_39 N thrown above below_ y1 y2 y3 s1 = some z → va_P D vwCl (ws_X7_value cI cJ cB a0 a_kind a_left a_right a_many a_bits a_rows a_table a_roots a_moved a_text a_out a_row a_sum a_point a_pointRows a_pointSorts a_above a_below thrown used rooted size outSize points takenOut great at_ fault open_ wrong by_ sort variable_ pointCount above below_) H → va_D (va_A ws0 sz) (ws_X7_value cI cJ cB a0 a_kind a_left a_right a_many a_bits a_rows a_table a_roots a_moved a_text a_out a_row a_sum a_point a_pointRows a_pointSorts a_above a_below thrown used rooted size outSize points takenOut great at_ fault open_ wrong by_ sort variable_ pointCount above below_) → va_S (va_A ws0 sz) s.heap H locs → lv_has ls 4 [(0, .ref a0), (1, .int y1), (2, .int y2), (3, .int y3)] → W p l e rm_X7_value s m args below meth c H locs 0 0 (MQ below (gQ D sz ws0 (ws_X7_value cI cJ cB a0 a_kind a_left a_right a_many a_bits a_rows a_table a_roots a_moved a_text a_out a_row a_sum a_point a_pointRows a_pointSorts a_above a_below z.1 used rooted size outSize points takenOut great at_ fault open_ wrong by_ sort variable_ pointCount z.2.1 z.2.2) none) args s 0 0 (va_A ws0 sz)) (F0 m 39 ls [.int s1, .ref a0]) := by
  obtain ⟨F, hr, hlk, hNw⟩ := id CX
  have hx := F.1
  have hb := F.2.1
  have hown := F.2.2.2.1
  have hA : ∀ q, s.heap.size ≤ q → va_A ws0 sz q := fun q hq => Or.inr (hsz ▸ hq)
  intro thrown above below_ y1 y2 y3 s1 H locs ls h hP hD hS hl
  unfold f_X7_value_39 at h
  refine r_put (wn := (ws_X7_value cI cJ cB a0 a_kind a_left a_right a_many a_bits a_rows a_table a_roots a_moved a_text a_out a_row a_sum a_point a_pointRows a_pointSorts a_above a_below s1 used rooted size outSize points takenOut great at_ fault open_ wrong by_ sort variable_ pointCount above below_)) F hK hP hD hS 0 0 rfl inW_X7 wm_1092 tyX7_ok nmX7 rfl rfl (by decide) rfl rfl (Nat.le_of_ble_eq_true rfl) rfl dX7_value_39 (fun H locs hP hD hS => ?_)
  refine lv_aload_n hx hb dX7_value_42 rfl (lv_at hl 0 rfl) ?_
  refine r_get F hK hP 0 0 rfl inW_X7 wm_1092 rfl (by decide) rfl dX7_value_43 ?_
  refine lv_if_ne (tgt := 63) hx hb dX7_value_46 (by decide) (fun c46 => ?_) (fun c46 => ?_)
  · have h := o_f c46 h
    exact w_X7_value_63 CX hK hsz s1 above below_ _ _ _ h hP hD hS (lv_sub hl [] rfl)
  · have h := o_t c46 h
    refine lv_aload_n hx hb dX7_value_49 rfl (lv_at hl 0 rfl) ?_
    refine r_get F hK hP 0 16 rfl inW_X7 wm_1108 rfl (by decide) rfl dX7_value_50 ?_
    refine lv_iload_n hx hb dX7_value_53 rfl (lv_at hl 1 rfl) ?_
    refine lv_iload_n hx hb dX7_value_54 rfl (lv_at hl 2 rfl) ?_
    obtain ⟨hi55, h⟩ := o_ix h
    refine r_iast (wn := (ws_X7_value cI cJ cB a0 a_kind a_left a_right a_many a_bits a_rows a_table a_roots a_moved a_text a_out a_row a_sum a_point a_pointRows a_pointSorts a_above a_below s1 used rooted size outSize points takenOut great at_ fault open_ wrong by_ sort variable_ pointCount (upd above y1.toNatClampNeg y2) below_)) F hK hP hD hS 1 0 hi55 rfl rfl rfl dX7_value_55 (fun H locs hP hD hS => ?_)
    refine lv_aload_n hx hb dX7_value_56 rfl (lv_at hl 0 rfl) ?_
    refine r_get F hK hP 0 17 rfl inW_X7 wm_1109 rfl (by decide) rfl dX7_value_57 ?_
    refine lv_iload_n hx hb dX7_value_60 rfl (lv_at hl 1 rfl) ?_
    refine lv_iload_n hx hb dX7_value_61 rfl (lv_at hl 3 rfl) ?_
    obtain ⟨hi62, h⟩ := o_ix h
    refine r_iast (wn := (ws_X7_value cI cJ cB a0 a_kind a_left a_right a_many a_bits a_rows a_table a_roots a_moved a_text a_out a_row a_sum a_point a_pointRows a_pointSorts a_above a_below s1 used rooted size outSize points takenOut great at_ fault open_ wrong by_ sort variable_ pointCount (upd above y1.toNatClampNeg y2) (upd below_ y1.toNatClampNeg y3))) F hK hP hD hS 2 0 hi62 rfl rfl rfl dX7_value_62 (fun H locs hP hD hS => ?_)
    exact w_X7_value_63 CX hK hsz s1 (upd above y1.toNatClampNeg y2) (upd below_ y1.toNatClampNeg y3) _ _ _ h hP hD hS (lv_sub hl [] rfl)
set_option maxHeartbeats 4000000 in
set_option maxRecDepth 100000 in
theorem w_X7_value_34 (CX : Cx p m c cX7_value 4 s args x0 RX7 meth none) (hK : va_K D vwCl (ty0 cI cJ cB) s) (hsz : s.heap.size = sz) : ∀ (thrown : Int32) (above : Nat → Int32) (below_ : Nat → Int32) (y1 : Int32) (y2 : Int32) (y3 : Int32) (H : Heap) (locs : List Loc) (ls : Array Slot), f_X7_value_34 N thrown above below_ y1 y2 y3 = some z → va_P D vwCl (ws_X7_value cI cJ cB a0 a_kind a_left a_right a_many a_bits a_rows a_table a_roots a_moved a_text a_out a_row a_sum a_point a_pointRows a_pointSorts a_above a_below thrown used rooted size outSize points takenOut great at_ fault open_ wrong by_ sort variable_ pointCount above below_) H → va_D (va_A ws0 sz) (ws_X7_value cI cJ cB a0 a_kind a_left a_right a_many a_bits a_rows a_table a_roots a_moved a_text a_out a_row a_sum a_point a_pointRows a_pointSorts a_above a_below thrown used rooted size outSize points takenOut great at_ fault open_ wrong by_ sort variable_ pointCount above below_) → va_S (va_A ws0 sz) s.heap H locs → lv_has ls 4 [(0, .ref a0), (1, .int y1), (2, .int y2), (3, .int y3)] → W p l e rm_X7_value s m args below meth c H locs 0 0 (MQ below (gQ D sz ws0 (ws_X7_value cI cJ cB a0 a_kind a_left a_right a_many a_bits a_rows a_table a_roots a_moved a_text a_out a_row a_sum a_point a_pointRows a_pointSorts a_above a_below z.1 used rooted size outSize points takenOut great at_ fault open_ wrong by_ sort variable_ pointCount z.2.1 z.2.2) none) args s 0 0 (va_A ws0 sz)) (F0 m 34 ls [.ref a0]) := by
  obtain ⟨F, hr, hlk, hNw⟩ := id CX
  have hx := F.1
  have hb := F.2.1
  have hown := F.2.2.2.1
  have hA : ∀ q, s.heap.size ≤ q → va_A ws0 sz q := fun q hq => Or.inr (hsz ▸ hq)
  intro thrown above below_ y1 y2 y3 H locs ls h hP hD hS hl
  unfold f_X7_value_34 at h
  refine lv_iconst (v := 1) hx hb dX7_value_34 (by decide) ?_
  refine lv_goto (tgt := 39) hx hb dX7_value_35 (by decide) ?_
  exact w_X7_value_39 CX hK hsz thrown above below_ y1 y2 y3 1 _ _ _ h hP hD hS (lv_sub hl [0, 1, 2, 3] rfl)
end G_X7_value
set_option maxHeartbeats 4000000 in
set_option maxRecDepth 100000 in
theorem c_X7_value (l : Launch) (D : va_G) (cI cJ cB : ClassId) (a0 a_kind a_left a_right a_many a_bits a_rows a_table a_roots a_moved a_text a_out a_row a_sum a_point a_pointRows a_pointSorts a_above a_below : Nat) (sz : Nat) (thrown : Int32) (used : Int32) (rooted : Int32) (size : Int32) (outSize : Int32) (points : Int32) (takenOut : Int32) (great : Int32) (at_ : Int32) (fault : Int32) (open_ : Int32) (wrong : Int32) (by_ : Int64) (sort : Int32) (variable_ : Int32) (pointCount : Int32) (above : Nat → Int32) (below_ : Nat → Int32) (x1 : Int32) (x2 : Int32) (x3 : Int32) (N : Nat) {z : (Int32) × (Nat → Int32) × (Nat → Int32)} (h : f_X7_value N thrown above below_ x1 x2 x3 = some z) : Mg l yX7_value cX7_value 4 none rm_X7_value D (ty0 cI cJ cB) [.ref a0, .int x1, .int x2, .int x3] sz (ws_X7_value cI cJ cB a0 a_kind a_left a_right a_many a_bits a_rows a_table a_roots a_moved a_text a_out a_row a_sum a_point a_pointRows a_pointSorts a_above a_below thrown used rooted size outSize points takenOut great at_ fault open_ wrong by_ sort variable_ pointCount above below_) none (ws_X7_value cI cJ cB a0 a_kind a_left a_right a_many a_bits a_rows a_table a_roots a_moved a_text a_out a_row a_sum a_point a_pointRows a_pointSorts a_above a_below z.1 used rooted size outSize points takenOut great at_ fault open_ wrong by_ sort variable_ pointCount z.2.1 z.2.2) := by
  refine Mg.of (by decide) (Nat.le_of_ble_eq_true rfl) ?_
  intro p e s m below meth c CX hK hsz hP hD ls hl
  have CX : Cx p m c cX7_value 4 s ([.ref a0, .int x1, .int x2, .int x3] : List Value).toArray (Cond.code yX7_value cX7_value 4 none) RX7 meth none := CX
  obtain ⟨F, hr, hlk, hNw⟩ := id CX
  have hx := F.1
  have hb := F.2.1
  have hown := F.2.2.2.1
  have hl : lv_has ls 4 [(0, .ref a0), (1, .int x1), (2, .int x2), (3, .int x3)] := hl
  have hS : va_S (va_A (ws_X7_value cI cJ cB a0 a_kind a_left a_right a_many a_bits a_rows a_table a_roots a_moved a_text a_out a_row a_sum a_point a_pointRows a_pointSorts a_above a_below thrown used rooted size outSize points takenOut great at_ fault open_ wrong by_ sort variable_ pointCount above below_) sz) s.heap s.heap [] := va_S.rf
  have hA : ∀ q, s.heap.size ≤ q → va_A (ws_X7_value cI cJ cB a0 a_kind a_left a_right a_many a_bits a_rows a_table a_roots a_moved a_text a_out a_row a_sum a_point a_pointRows a_pointSorts a_above a_below thrown used rooted size outSize points takenOut great at_ fault open_ wrong by_ sort variable_ pointCount above below_) sz q := fun q hq => Or.inr (hsz ▸ hq)
  unfold f_X7_value at h
  refine lv_aload_n hx hb dX7_value_0 rfl (lv_at hl 0 rfl) ?_
  refine lv_iload_n hx hb dX7_value_1 rfl (lv_at hl 1 rfl) ?_
  refine lv_if_lt (tgt := 34) hx hb dX7_value_2 (by decide) (fun c2 => ?_) (fun c2 => ?_)
  · have h := o_t c2 h
    exact w_X7_value_34 CX hK hsz thrown above below_ x1 x2 x3 _ _ _ h hP hD hS (lv_sub hl [0, 1, 2, 3] rfl)
  · have h := o_f c2 h
    refine lv_iload_n hx hb dX7_value_5 rfl (lv_at hl 1 rfl) ?_
    refine lv_bipush (v := 7) hx hb dX7_value_6 (by decide) ?_
    refine lv_icmp_gt (tgt := 34) hx hb dX7_value_8 (by decide) (fun c8 => ?_) (fun c8 => ?_)
    · have h := o_t c8 h
      exact w_X7_value_34 CX hK hsz thrown above below_ x1 x2 x3 _ _ _ h hP hD hS (lv_sub hl [0, 1, 2, 3] rfl)
    · have h := o_f c8 h
      refine lv_iload_n hx hb dX7_value_11 rfl (lv_at hl 2 rfl) ?_
      refine lv_bipush (v := (-99)) hx hb dX7_value_12 (by decide) ?_
      refine lv_icmp_lt (tgt := 34) hx hb dX7_value_14 (by decide) (fun c14 => ?_) (fun c14 => ?_)
      · have h := o_t c14 h
        exact w_X7_value_34 CX hK hsz thrown above below_ x1 x2 x3 _ _ _ h hP hD hS (lv_sub hl [0, 1, 2, 3] rfl)
      · have h := o_f c14 h
        refine lv_iload_n hx hb dX7_value_17 rfl (lv_at hl 2 rfl) ?_
        refine lv_bipush (v := 99) hx hb dX7_value_18 (by decide) ?_
        refine lv_icmp_gt (tgt := 34) hx hb dX7_value_20 (by decide) (fun c20 => ?_) (fun c20 => ?_)
        · have h := o_t c20 h
          exact w_X7_value_34 CX hK hsz thrown above below_ x1 x2 x3 _ _ _ h hP hD hS (lv_sub hl [0, 1, 2, 3] rfl)
        · have h := o_f c20 h
          refine lv_iload_n hx hb dX7_value_23 rfl (lv_at hl 3 rfl) ?_
          refine lv_iconst (v := 1) hx hb dX7_value_24 (by decide) ?_
          refine lv_icmp_lt (tgt := 34) hx hb dX7_value_25 (by decide) (fun c25 => ?_) (fun c25 => ?_)
          · have h := o_t c25 h
            exact w_X7_value_34 CX hK hsz thrown above below_ x1 x2 x3 _ _ _ h hP hD hS (lv_sub hl [0, 1, 2, 3] rfl)
          · have h := o_f c25 h
            refine lv_iload_n hx hb dX7_value_28 rfl (lv_at hl 3 rfl) ?_
            refine lv_bipush (v := 9) hx hb dX7_value_29 (by decide) ?_
            refine lv_icmp_le (tgt := 38) hx hb dX7_value_31 (by decide) (fun c31 => ?_) (fun c31 => ?_)
            · have h := o_t c31 h
              refine lv_iconst (v := 0) hx hb dX7_value_38 (by decide) ?_
              exact w_X7_value_39 CX hK hsz thrown above below_ x1 x2 x3 0 _ _ _ h hP hD hS (lv_sub hl [0, 1, 2, 3] rfl)
            · have h := o_f c31 h
              exact w_X7_value_34 CX hK hsz thrown above below_ x1 x2 x3 _ _ _ h hP hD hS (lv_sub hl [0, 1, 2, 3] rfl)
section G_X7_holds
abbrev ws_X7_holds (cI cJ cB : ClassId) (a0 a_many a_bits a_table a_moved a_text a_out a_row a_sum a_point a_pointRows a_pointSorts a_kind a_left a_right a_rows a_roots a_above a_below : Nat) (thrown : Int32) (used : Int32) (rooted : Int32) (size : Int32) (outSize : Int32) (points : Int32) (takenOut : Int32) (great : Int32) (at_ : Int32) (fault : Int32) (open_ : Int32) (wrong : Int32) (by_ : Int64) (sort : Int32) (variable_ : Int32) (pointCount : Int32) (kind : Nat → Int32) (left_ : Nat → Int32) (right_ : Nat → Int32) (rows : Nat → Int32) (roots : Nat → Int32) (above : Nat → Int32) (below_ : Nat → Int32) : va_W := [(a0, .inr (9, [.int thrown, .ref a_kind, .ref a_left, .ref a_right, .ref a_many, .ref a_bits, .ref a_rows, .ref a_table, .int used, .ref a_roots, .int rooted, .ref a_moved, .ref a_text, .int size, .ref a_out, .int outSize, .ref a_above, .ref a_below, .int points, .int takenOut, .int great, .ref a_row, .int at_, .int fault, .int open_, .int wrong, .ref a_sum, .ref a_point, .long by_, .int sort, .int variable_, .ref a_pointRows, .ref a_pointSorts, .int pointCount])), (a_kind, .inl (cI, 24000, .inl kind)), (a_left, .inl (cI, 24000, .inl left_)), (a_right, .inl (cI, 24000, .inl right_)), (a_rows, .inl (cI, 216000, .inl rows)), (a_roots, .inl (cI, 2000, .inl roots)), (a_above, .inl (cI, 8, .inl above)), (a_below, .inl (cI, 8, .inl below_))]
abbrev rm_X7_holds : Room := { frames := 451, cells := 0, slots := 0, locals := 10824 }
def f_X7_holds_52 (N : Nat) (thrown : Int32) (kind : Nat → Int32) (left_ : Nat → Int32) (right_ : Nat → Int32) (rows : Nat → Int32) (roots : Nat → Int32) (above : Nat → Int32) (below_ : Nat → Int32) (s0 : Int32) : Option (Int32 × (Int32)) := some (s0, thrown)
def f_X7_holds_20 (N : Nat) (thrown : Int32) (kind : Nat → Int32) (left_ : Nat → Int32) (right_ : Nat → Int32) (rows : Nat → Int32) (roots : Nat → Int32) (above : Nat → Int32) (below_ : Nat → Int32) (s1 : Int32) : Option (Int32 × (Int32)) := ifb (s1 ≤ 0) (ix 0 2000 ((f_X7_isTrue N kind left_ right_ rows above below_ (roots (0 : Int32).toNatClampNeg)).bind (fun z41 => ifb (z41 = 0) (f_X7_holds_52 N s1 kind left_ right_ rows roots above below_ 0) (f_X7_holds_52 N s1 kind left_ right_ rows roots above below_ 1)))) (f_X7_holds_52 N s1 kind left_ right_ rows roots above below_ 0)
def f_X7_holds (N : Nat) (thrown : Int32) (kind : Nat → Int32) (left_ : Nat → Int32) (right_ : Nat → Int32) (rows : Nat → Int32) (roots : Nat → Int32) (above : Nat → Int32) (below_ : Nat → Int32) : Option (Int32 × (Int32)) := ix 0 2000 ((f_X7_count N kind left_ right_ (roots (0 : Int32).toNatClampNeg) 2).bind (fun z9 => ifb (z9 ≤ 0) (f_X7_holds_20 N thrown kind left_ right_ rows roots above below_ 0) (f_X7_holds_20 N thrown kind left_ right_ rows roots above below_ 1)))
variable {p : Program} {l : Launch} {e : Env} {s : State} {m : MethodId} {below : List Frame} {meth : Method} {c : Code} {args : Array Value} {x0 : Cond} {D : va_G} {cI cJ cB : ClassId} {sz N : Nat} {ws0 : va_W} {a0 a_many a_bits a_table a_moved a_text a_out a_row a_sum a_point a_pointRows a_pointSorts a_kind a_left a_right a_rows a_roots a_above a_below : Nat} {used : Int32} {rooted : Int32} {size : Int32} {outSize : Int32} {points : Int32} {takenOut : Int32} {great : Int32} {at_ : Int32} {fault : Int32} {open_ : Int32} {wrong : Int32} {by_ : Int64} {sort : Int32} {variable_ : Int32} {pointCount : Int32} {kind : Nat → Int32} {left_ : Nat → Int32} {right_ : Nat → Int32} {rows : Nat → Int32} {roots : Nat → Int32} {above : Nat → Int32} {below_ : Nat → Int32} {z : Int32 × (Int32)}
set_option maxHeartbeats 4000000 in
set_option maxRecDepth 100000 in
theorem w_X7_holds_52 (CX : Cx p m c cX7_holds 1 s args x0 RX7 meth (some .int)) (hK : va_K D vwCl (ty0 cI cJ cB) s) (hsz : s.heap.size = sz) : ∀ (thrown : Int32) (s0 : Int32) (H : Heap) (locs : List Loc) (ls : Array Slot), f_X7_holds_52 N thrown kind left_ right_ rows roots above below_ s0 = some z → va_P D vwCl (ws_X7_holds cI cJ cB a0 a_many a_bits a_table a_moved a_text a_out a_row a_sum a_point a_pointRows a_pointSorts a_kind a_left a_right a_rows a_roots a_above a_below thrown used rooted size outSize points takenOut great at_ fault open_ wrong by_ sort variable_ pointCount kind left_ right_ rows roots above below_) H → va_D (va_A ws0 sz) (ws_X7_holds cI cJ cB a0 a_many a_bits a_table a_moved a_text a_out a_row a_sum a_point a_pointRows a_pointSorts a_kind a_left a_right a_rows a_roots a_above a_below thrown used rooted size outSize points takenOut great at_ fault open_ wrong by_ sort variable_ pointCount kind left_ right_ rows roots above below_) → va_S (va_A ws0 sz) s.heap H locs → lv_has ls 1 [] → W p l e rm_X7_holds s m args below meth c H locs 0 0 (MQ below (gQ D sz ws0 (ws_X7_holds cI cJ cB a0 a_many a_bits a_table a_moved a_text a_out a_row a_sum a_point a_pointRows a_pointSorts a_kind a_left a_right a_rows a_roots a_above a_below z.2 used rooted size outSize points takenOut great at_ fault open_ wrong by_ sort variable_ pointCount kind left_ right_ rows roots above below_) (some (.int z.1))) args s 0 0 (va_A ws0 sz)) (F0 m 52 ls [.int s0]) := by
  obtain ⟨F, hr, hlk, hNw⟩ := id CX
  have hx := F.1
  have hb := F.2.1
  have hown := F.2.2.2.1
  have hA : ∀ q, s.heap.size ≤ q → va_A ws0 sz q := fun q hq => Or.inr (hsz ▸ hq)
  intro thrown s0 H locs ls h hP hD hS hl
  unfold f_X7_holds_52 at h
  obtain rfl := Option.some.inj h
  exact r_ret (v := s0) F hr hlk rfl dX7_holds_52 hsz hP hD hS
set_option maxHeartbeats 4000000 in
set_option maxRecDepth 100000 in
theorem w_X7_holds_20 (CX : Cx p m c cX7_holds 1 s args x0 RX7 meth (some .int)) (hK : va_K D vwCl (ty0 cI cJ cB) s) (hsz : s.heap.size = sz) : ∀ (thrown : Int32) (s1 : Int32) (H : Heap) (locs : List Loc) (ls : Array Slot), f_X7_holds_20 N thrown kind left_ right_ rows roots above below_ s1 = some z → va_P D vwCl (ws_X7_holds cI cJ cB a0 a_many a_bits a_table a_moved a_text a_out a_row a_sum a_point a_pointRows a_pointSorts a_kind a_left a_right a_rows a_roots a_above a_below thrown used rooted size outSize points takenOut great at_ fault open_ wrong by_ sort variable_ pointCount kind left_ right_ rows roots above below_) H → va_D (va_A ws0 sz) (ws_X7_holds cI cJ cB a0 a_many a_bits a_table a_moved a_text a_out a_row a_sum a_point a_pointRows a_pointSorts a_kind a_left a_right a_rows a_roots a_above a_below thrown used rooted size outSize points takenOut great at_ fault open_ wrong by_ sort variable_ pointCount kind left_ right_ rows roots above below_) → va_S (va_A ws0 sz) s.heap H locs → lv_has ls 1 [(0, .ref a0)] → W p l e rm_X7_holds s m args below meth c H locs 0 0 (MQ below (gQ D sz ws0 (ws_X7_holds cI cJ cB a0 a_many a_bits a_table a_moved a_text a_out a_row a_sum a_point a_pointRows a_pointSorts a_kind a_left a_right a_rows a_roots a_above a_below z.2 used rooted size outSize points takenOut great at_ fault open_ wrong by_ sort variable_ pointCount kind left_ right_ rows roots above below_) (some (.int z.1))) args s 0 0 (va_A ws0 sz)) (F0 m 20 ls [.int s1, .ref a0]) := by
  obtain ⟨F, hr, hlk, hNw⟩ := id CX
  have hx := F.1
  have hb := F.2.1
  have hown := F.2.2.2.1
  have hA : ∀ q, s.heap.size ≤ q → va_A ws0 sz q := fun q hq => Or.inr (hsz ▸ hq)
  intro thrown s1 H locs ls h hP hD hS hl
  unfold f_X7_holds_20 at h
  refine r_put (wn := (ws_X7_holds cI cJ cB a0 a_many a_bits a_table a_moved a_text a_out a_row a_sum a_point a_pointRows a_pointSorts a_kind a_left a_right a_rows a_roots a_above a_below s1 used rooted size outSize points takenOut great at_ fault open_ wrong by_ sort variable_ pointCount kind left_ right_ rows roots above below_)) F hK hP hD hS 0 0 rfl inW_X7 wm_1092 tyX7_ok nmX7 rfl rfl (by decide) rfl rfl (Nat.le_of_ble_eq_true rfl) rfl dX7_holds_20 (fun H locs hP hD hS => ?_)
  refine lv_aload_n hx hb dX7_holds_23 rfl (lv_at hl 0 rfl) ?_
  refine r_get F hK hP 0 0 rfl inW_X7 wm_1092 rfl (by decide) rfl dX7_holds_24 ?_
  refine lv_if_le (tgt := 34) hx hb dX7_holds_27 (by decide) (fun c27 => ?_) (fun c27 => ?_)
  · have h := o_t c27 h
    refine lv_aload_n hx hb dX7_holds_34 rfl (lv_at hl 0 rfl) ?_
    refine lv_aload_n hx hb dX7_holds_35 rfl (lv_at hl 0 rfl) ?_
    refine r_get F hK hP 0 9 rfl inW_X7 wm_1101 rfl (by decide) rfl dX7_holds_36 ?_
    refine lv_iconst (v := 0) hx hb dX7_holds_39 (by decide) ?_
    obtain ⟨hi40, h⟩ := o_ix h
    refine va_iald hx hb hK hP 5 0 rfl rfl hi40 dX7_holds_40 ?_
    obtain ⟨z41, hz41, h⟩ := o_b h
    refine k_v (wn := (ws_X7_holds cI cJ cB a0 a_many a_bits a_table a_moved a_text a_out a_row a_sum a_point a_pointRows a_pointSorts a_kind a_left a_right a_rows a_roots a_above a_below s1 used rooted size outSize points takenOut great at_ fault open_ wrong by_ sort variable_ pointCount kind left_ right_ rows roots above below_)) (As := [.int (roots (0 : Int32).toNatClampNeg)]) (rest := []) F hNw hK hP hD hS hA (c_X7_isTrue l D cI cJ cB a0 a_many a_bits a_table a_roots a_moved a_text a_out a_row a_sum a_point a_pointRows a_pointSorts a_kind a_left a_right a_rows a_above a_below _ s1 used rooted size outSize points takenOut great at_ fault open_ wrong by_ sort variable_ pointCount kind left_ right_ rows above below_ (roots (0 : Int32).toNatClampNeg) N hz41) wm_1338 cv_X7_isTrue [0, 1, 2, 3, 4, 6, 7] [5] [1, 2, 3, 4, 5, 0, 6, 7] (⟨rfl, rfl, rfl, by decide, rfl⟩ : Ix [0, 1, 2, 3, 4, 6, 7] [5] [1, 2, 3, 4, 5, 0, 6, 7] 8) rfl (hN_of 1 8 (by decide +kernel) rfl (by decide +kernel) rfl) rfl rfl rfl rfl ⟨rfl, rfl, by decide, by decide⟩ hl.1 rfl (Nat.le_of_ble_eq_true rfl) ⟨Nat.zero_le _, Nat.zero_le _⟩ dX7_holds_41 (fun H locs hP hD hS => ?_)
    refine lv_if_eq (tgt := 51) hx hb dX7_holds_44 (by decide) (fun c44 => ?_) (fun c44 => ?_)
    · have h := o_t c44 h
      refine lv_iconst (v := 0) hx hb dX7_holds_51 (by decide) ?_
      exact w_X7_holds_52 CX hK hsz s1 0 _ _ _ h hP hD hS (lv_sub hl [] rfl)
    · have h := o_f c44 h
      refine lv_iconst (v := 1) hx hb dX7_holds_47 (by decide) ?_
      refine lv_goto (tgt := 52) hx hb dX7_holds_48 (by decide) ?_
      exact w_X7_holds_52 CX hK hsz s1 1 _ _ _ h hP hD hS (lv_sub hl [] rfl)
  · have h := o_f c27 h
    refine lv_iconst (v := 0) hx hb dX7_holds_30 (by decide) ?_
    refine lv_goto (tgt := 52) hx hb dX7_holds_31 (by decide) ?_
    exact w_X7_holds_52 CX hK hsz s1 0 _ _ _ h hP hD hS (lv_sub hl [] rfl)
end G_X7_holds
set_option maxHeartbeats 4000000 in
set_option maxRecDepth 100000 in
theorem c_X7_holds (l : Launch) (D : va_G) (cI cJ cB : ClassId) (a0 a_many a_bits a_table a_moved a_text a_out a_row a_sum a_point a_pointRows a_pointSorts a_kind a_left a_right a_rows a_roots a_above a_below : Nat) (sz : Nat) (thrown : Int32) (used : Int32) (rooted : Int32) (size : Int32) (outSize : Int32) (points : Int32) (takenOut : Int32) (great : Int32) (at_ : Int32) (fault : Int32) (open_ : Int32) (wrong : Int32) (by_ : Int64) (sort : Int32) (variable_ : Int32) (pointCount : Int32) (kind : Nat → Int32) (left_ : Nat → Int32) (right_ : Nat → Int32) (rows : Nat → Int32) (roots : Nat → Int32) (above : Nat → Int32) (below_ : Nat → Int32) (N : Nat) {z : Int32 × (Int32)} (h : f_X7_holds N thrown kind left_ right_ rows roots above below_ = some z) : Mg l yX7_holds cX7_holds 1 (some .int) rm_X7_holds D (ty0 cI cJ cB) [.ref a0] sz (ws_X7_holds cI cJ cB a0 a_many a_bits a_table a_moved a_text a_out a_row a_sum a_point a_pointRows a_pointSorts a_kind a_left a_right a_rows a_roots a_above a_below thrown used rooted size outSize points takenOut great at_ fault open_ wrong by_ sort variable_ pointCount kind left_ right_ rows roots above below_) (some (.int z.1)) (ws_X7_holds cI cJ cB a0 a_many a_bits a_table a_moved a_text a_out a_row a_sum a_point a_pointRows a_pointSorts a_kind a_left a_right a_rows a_roots a_above a_below z.2 used rooted size outSize points takenOut great at_ fault open_ wrong by_ sort variable_ pointCount kind left_ right_ rows roots above below_) := by
  refine Mg.of (by decide) (Nat.le_of_ble_eq_true rfl) ?_
  intro p e s m below meth c CX hK hsz hP hD ls hl
  have CX : Cx p m c cX7_holds 1 s ([.ref a0] : List Value).toArray (Cond.code yX7_holds cX7_holds 1 (some .int)) RX7 meth (some .int) := CX
  obtain ⟨F, hr, hlk, hNw⟩ := id CX
  have hx := F.1
  have hb := F.2.1
  have hown := F.2.2.2.1
  have hl : lv_has ls 1 [(0, .ref a0)] := hl
  have hS : va_S (va_A (ws_X7_holds cI cJ cB a0 a_many a_bits a_table a_moved a_text a_out a_row a_sum a_point a_pointRows a_pointSorts a_kind a_left a_right a_rows a_roots a_above a_below thrown used rooted size outSize points takenOut great at_ fault open_ wrong by_ sort variable_ pointCount kind left_ right_ rows roots above below_) sz) s.heap s.heap [] := va_S.rf
  have hA : ∀ q, s.heap.size ≤ q → va_A (ws_X7_holds cI cJ cB a0 a_many a_bits a_table a_moved a_text a_out a_row a_sum a_point a_pointRows a_pointSorts a_kind a_left a_right a_rows a_roots a_above a_below thrown used rooted size outSize points takenOut great at_ fault open_ wrong by_ sort variable_ pointCount kind left_ right_ rows roots above below_) sz q := fun q hq => Or.inr (hsz ▸ hq)
  unfold f_X7_holds at h
  refine lv_aload_n hx hb dX7_holds_0 rfl (lv_at hl 0 rfl) ?_
  refine lv_aload_n hx hb dX7_holds_1 rfl (lv_at hl 0 rfl) ?_
  refine lv_aload_n hx hb dX7_holds_2 rfl (lv_at hl 0 rfl) ?_
  refine r_get F hK hP 0 9 rfl inW_X7 wm_1101 rfl (by decide) rfl dX7_holds_3 ?_
  refine lv_iconst (v := 0) hx hb dX7_holds_6 (by decide) ?_
  obtain ⟨hi7, h⟩ := o_ix h
  refine va_iald hx hb hK hP 5 0 rfl rfl hi7 dX7_holds_7 ?_
  refine lv_iconst (v := 2) hx hb dX7_holds_8 (by decide) ?_
  obtain ⟨z9, hz9, h⟩ := o_b h
  refine k_v (wn := (ws_X7_holds cI cJ cB a0 a_many a_bits a_table a_moved a_text a_out a_row a_sum a_point a_pointRows a_pointSorts a_kind a_left a_right a_rows a_roots a_above a_below thrown used rooted size outSize points takenOut great at_ fault open_ wrong by_ sort variable_ pointCount kind left_ right_ rows roots above below_)) (As := [.int (roots (0 : Int32).toNatClampNeg), .int 2]) (rest := [.ref a0]) F hNw hK hP hD hS hA (c_X7_count l D cI cJ cB a0 a_many a_bits a_rows a_table a_roots a_moved a_text a_out a_above a_below a_row a_sum a_point a_pointRows a_pointSorts a_kind a_left a_right _ thrown used rooted size outSize points takenOut great at_ fault open_ wrong by_ sort variable_ pointCount kind left_ right_ (roots (0 : Int32).toNatClampNeg) 2 N hz9) wm_1334 cv_X7_count [0, 1, 2, 3] [4, 5, 6, 7] [4, 5, 6, 7, 0, 1, 2, 3] (⟨rfl, rfl, rfl, by decide, rfl⟩ : Ix [0, 1, 2, 3] [4, 5, 6, 7] [4, 5, 6, 7, 0, 1, 2, 3] 8) rfl (hN_of 4 8 (by decide +kernel) rfl (by decide +kernel) rfl) rfl rfl rfl rfl ⟨rfl, rfl, by decide, by decide⟩ hl.1 rfl (Nat.le_of_ble_eq_true rfl) ⟨Nat.zero_le _, Nat.zero_le _⟩ dX7_holds_9 (fun H locs hP hD hS => ?_)
  refine lv_if_le (tgt := 19) hx hb dX7_holds_12 (by decide) (fun c12 => ?_) (fun c12 => ?_)
  · have h := o_t c12 h
    refine lv_iconst (v := 0) hx hb dX7_holds_19 (by decide) ?_
    exact w_X7_holds_20 CX hK hsz thrown 0 _ _ _ h hP hD hS (lv_sub hl [0] rfl)
  · have h := o_f c12 h
    refine lv_iconst (v := 1) hx hb dX7_holds_15 (by decide) ?_
    refine lv_goto (tgt := 20) hx hb dX7_holds_16 (by decide) ?_
    exact w_X7_holds_20 CX hK hsz thrown 1 _ _ _ h hP hD hS (lv_sub hl [0] rfl)
section G_X7_told
abbrev ws_X7_told (cI cJ cB : ClassId) (a0 a_bits a_rows a_table a_moved a_text a_out a_above a_below a_row a_sum a_point a_pointRows a_pointSorts a_kind a_left a_right a_many a_roots : Nat) (thrown : Int32) (used : Int32) (rooted : Int32) (size : Int32) (outSize : Int32) (points : Int32) (takenOut : Int32) (great : Int32) (at_ : Int32) (fault : Int32) (open_ : Int32) (wrong : Int32) (by_ : Int64) (sort : Int32) (variable_ : Int32) (pointCount : Int32) (kind : Nat → Int32) (left_ : Nat → Int32) (right_ : Nat → Int32) (many : Nat → Int32) (roots : Nat → Int32) : va_W := [(a0, .inr (9, [.int thrown, .ref a_kind, .ref a_left, .ref a_right, .ref a_many, .ref a_bits, .ref a_rows, .ref a_table, .int used, .ref a_roots, .int rooted, .ref a_moved, .ref a_text, .int size, .ref a_out, .int outSize, .ref a_above, .ref a_below, .int points, .int takenOut, .int great, .ref a_row, .int at_, .int fault, .int open_, .int wrong, .ref a_sum, .ref a_point, .long by_, .int sort, .int variable_, .ref a_pointRows, .ref a_pointSorts, .int pointCount])), (a_kind, .inl (cI, 24000, .inl kind)), (a_left, .inl (cI, 24000, .inl left_)), (a_right, .inl (cI, 24000, .inl right_)), (a_many, .inl (cI, 24000, .inl many)), (a_roots, .inl (cI, 2000, .inl roots))]
abbrev rm_X7_told : Room := { frames := 451, cells := 0, slots := 0, locals := 10824 }
def f_X7_told_80 (N : Nat) (thrown : Int32) (points : Int32) (takenOut : Int32) (kind : Nat → Int32) (left_ : Nat → Int32) (right_ : Nat → Int32) (many : Nat → Int32) (roots : Nat → Int32) (y1 : Int32) : Option (Int32 × (Int32)) := ix 0 2000 ((f_X7_count N kind left_ right_ (roots (0 : Int32).toNatClampNeg) y1).bind (fun z88 => some (z88, thrown)))
def f_X7_told_31 (N : Nat) (thrown : Int32) (points : Int32) (takenOut : Int32) (kind : Nat → Int32) (left_ : Nat → Int32) (right_ : Nat → Int32) (many : Nat → Int32) (roots : Nat → Int32) (y1 : Int32) (s0 : Int32) : Option (Int32 × (Int32)) := ifb (s0.toInt < 0 ∨ 5 < s0.toInt) (some (0, thrown)) (ifb (s0 = 0) (ix 0 2000 (ix (roots (0 : Int32).toNatClampNeg) 24000 (some (many (roots (0 : Int32).toNatClampNeg).toNatClampNeg, thrown)))) (ifb (s0 = 1) (f_X7_told_80 N thrown points takenOut kind left_ right_ many roots y1) (ifb (s0 = 2) (f_X7_told_80 N thrown points takenOut kind left_ right_ many roots y1) (ifb (s0 = 3) (f_X7_told_80 N thrown points takenOut kind left_ right_ many roots y1) (ifb (s0 = 4) (some (points, thrown)) (ifb (s0 = 5) (some (takenOut, thrown)) (none)))))))
def f_X7_told_15 (N : Nat) (thrown : Int32) (points : Int32) (takenOut : Int32) (kind : Nat → Int32) (left_ : Nat → Int32) (right_ : Nat → Int32) (many : Nat → Int32) (roots : Nat → Int32) (y1 : Int32) (s1 : Int32) : Option (Int32 × (Int32)) := ifb (s1 ≤ 0) (f_X7_told_31 N s1 points takenOut kind left_ right_ many roots y1 y1) (f_X7_told_31 N s1 points takenOut kind left_ right_ many roots y1 6)
def f_X7_told_10 (N : Nat) (thrown : Int32) (points : Int32) (takenOut : Int32) (kind : Nat → Int32) (left_ : Nat → Int32) (right_ : Nat → Int32) (many : Nat → Int32) (roots : Nat → Int32) (y1 : Int32) : Option (Int32 × (Int32)) := f_X7_told_15 N thrown points takenOut kind left_ right_ many roots y1 1
def f_X7_told (N : Nat) (thrown : Int32) (points : Int32) (takenOut : Int32) (kind : Nat → Int32) (left_ : Nat → Int32) (right_ : Nat → Int32) (many : Nat → Int32) (roots : Nat → Int32) (x1 : Int32) : Option (Int32 × (Int32)) := ifb (x1 < 0) (f_X7_told_10 N thrown points takenOut kind left_ right_ many roots x1) (ifb (x1 ≤ 5) (f_X7_told_15 N thrown points takenOut kind left_ right_ many roots x1 0) (f_X7_told_10 N thrown points takenOut kind left_ right_ many roots x1))
variable {p : Program} {l : Launch} {e : Env} {s : State} {m : MethodId} {below : List Frame} {meth : Method} {c : Code} {args : Array Value} {x0 : Cond} {D : va_G} {cI cJ cB : ClassId} {sz N : Nat} {ws0 : va_W} {a0 a_bits a_rows a_table a_moved a_text a_out a_above a_below a_row a_sum a_point a_pointRows a_pointSorts a_kind a_left a_right a_many a_roots : Nat} {used : Int32} {rooted : Int32} {size : Int32} {outSize : Int32} {points : Int32} {takenOut : Int32} {great : Int32} {at_ : Int32} {fault : Int32} {open_ : Int32} {wrong : Int32} {by_ : Int64} {sort : Int32} {variable_ : Int32} {pointCount : Int32} {kind : Nat → Int32} {left_ : Nat → Int32} {right_ : Nat → Int32} {many : Nat → Int32} {roots : Nat → Int32} {z : Int32 × (Int32)}
set_option maxHeartbeats 4000000 in
set_option maxRecDepth 100000 in
theorem w_X7_told_80 (CX : Cx p m c cX7_told 2 s args x0 RX7 meth (some .int)) (hK : va_K D vwCl (ty0 cI cJ cB) s) (hsz : s.heap.size = sz) : ∀ (thrown : Int32) (y1 : Int32) (H : Heap) (locs : List Loc) (ls : Array Slot), f_X7_told_80 N thrown points takenOut kind left_ right_ many roots y1 = some z → va_P D vwCl (ws_X7_told cI cJ cB a0 a_bits a_rows a_table a_moved a_text a_out a_above a_below a_row a_sum a_point a_pointRows a_pointSorts a_kind a_left a_right a_many a_roots thrown used rooted size outSize points takenOut great at_ fault open_ wrong by_ sort variable_ pointCount kind left_ right_ many roots) H → va_D (va_A ws0 sz) (ws_X7_told cI cJ cB a0 a_bits a_rows a_table a_moved a_text a_out a_above a_below a_row a_sum a_point a_pointRows a_pointSorts a_kind a_left a_right a_many a_roots thrown used rooted size outSize points takenOut great at_ fault open_ wrong by_ sort variable_ pointCount kind left_ right_ many roots) → va_S (va_A ws0 sz) s.heap H locs → lv_has ls 2 [(0, .ref a0), (1, .int y1)] → W p l e rm_X7_told s m args below meth c H locs 0 0 (MQ below (gQ D sz ws0 (ws_X7_told cI cJ cB a0 a_bits a_rows a_table a_moved a_text a_out a_above a_below a_row a_sum a_point a_pointRows a_pointSorts a_kind a_left a_right a_many a_roots z.2 used rooted size outSize points takenOut great at_ fault open_ wrong by_ sort variable_ pointCount kind left_ right_ many roots) (some (.int z.1))) args s 0 0 (va_A ws0 sz)) (F0 m 80 ls []) := by
  obtain ⟨F, hr, hlk, hNw⟩ := id CX
  have hx := F.1
  have hb := F.2.1
  have hown := F.2.2.2.1
  have hA : ∀ q, s.heap.size ≤ q → va_A ws0 sz q := fun q hq => Or.inr (hsz ▸ hq)
  intro thrown y1 H locs ls h hP hD hS hl
  unfold f_X7_told_80 at h
  refine lv_aload_n hx hb dX7_told_80 rfl (lv_at hl 0 rfl) ?_
  refine lv_aload_n hx hb dX7_told_81 rfl (lv_at hl 0 rfl) ?_
  refine r_get F hK hP 0 9 rfl inW_X7 wm_1101 rfl (by decide) rfl dX7_told_82 ?_
  refine lv_iconst (v := 0) hx hb dX7_told_85 (by decide) ?_
  obtain ⟨hi86, h⟩ := o_ix h
  refine va_iald hx hb hK hP 5 0 rfl rfl hi86 dX7_told_86 ?_
  refine lv_iload_n hx hb dX7_told_87 rfl (lv_at hl 1 rfl) ?_
  obtain ⟨z88, hz88, h⟩ := o_b h
  refine k_v (wn := (ws_X7_told cI cJ cB a0 a_bits a_rows a_table a_moved a_text a_out a_above a_below a_row a_sum a_point a_pointRows a_pointSorts a_kind a_left a_right a_many a_roots thrown used rooted size outSize points takenOut great at_ fault open_ wrong by_ sort variable_ pointCount kind left_ right_ many roots)) (As := [.int (roots (0 : Int32).toNatClampNeg), .int y1]) (rest := []) F hNw hK hP hD hS hA (c_X7_count l D cI cJ cB a0 a_many a_bits a_rows a_table a_roots a_moved a_text a_out a_above a_below a_row a_sum a_point a_pointRows a_pointSorts a_kind a_left a_right _ thrown used rooted size outSize points takenOut great at_ fault open_ wrong by_ sort variable_ pointCount kind left_ right_ (roots (0 : Int32).toNatClampNeg) y1 N hz88) wm_1334 cv_X7_count [0, 1, 2, 3] [4, 5] [2, 3, 4, 5, 0, 1] (⟨rfl, rfl, rfl, by decide, rfl⟩ : Ix [0, 1, 2, 3] [4, 5] [2, 3, 4, 5, 0, 1] 6) rfl (hN_of 2 6 (by decide +kernel) rfl (by decide +kernel) rfl) rfl rfl rfl rfl ⟨rfl, rfl, by decide, by decide⟩ hl.1 rfl (Nat.le_of_ble_eq_true rfl) ⟨Nat.zero_le _, Nat.zero_le _⟩ dX7_told_88 (fun H locs hP hD hS => ?_)
  obtain rfl := Option.some.inj h
  exact r_ret (v := z88) F hr hlk rfl dX7_told_91 hsz hP hD hS
set_option maxHeartbeats 4000000 in
set_option maxRecDepth 100000 in
theorem w_X7_told_31 (CX : Cx p m c cX7_told 2 s args x0 RX7 meth (some .int)) (hK : va_K D vwCl (ty0 cI cJ cB) s) (hsz : s.heap.size = sz) : ∀ (thrown : Int32) (y1 : Int32) (s0 : Int32) (H : Heap) (locs : List Loc) (ls : Array Slot), f_X7_told_31 N thrown points takenOut kind left_ right_ many roots y1 s0 = some z → va_P D vwCl (ws_X7_told cI cJ cB a0 a_bits a_rows a_table a_moved a_text a_out a_above a_below a_row a_sum a_point a_pointRows a_pointSorts a_kind a_left a_right a_many a_roots thrown used rooted size outSize points takenOut great at_ fault open_ wrong by_ sort variable_ pointCount kind left_ right_ many roots) H → va_D (va_A ws0 sz) (ws_X7_told cI cJ cB a0 a_bits a_rows a_table a_moved a_text a_out a_above a_below a_row a_sum a_point a_pointRows a_pointSorts a_kind a_left a_right a_many a_roots thrown used rooted size outSize points takenOut great at_ fault open_ wrong by_ sort variable_ pointCount kind left_ right_ many roots) → va_S (va_A ws0 sz) s.heap H locs → lv_has ls 2 [(0, .ref a0), (1, .int y1)] → W p l e rm_X7_told s m args below meth c H locs 0 0 (MQ below (gQ D sz ws0 (ws_X7_told cI cJ cB a0 a_bits a_rows a_table a_moved a_text a_out a_above a_below a_row a_sum a_point a_pointRows a_pointSorts a_kind a_left a_right a_many a_roots z.2 used rooted size outSize points takenOut great at_ fault open_ wrong by_ sort variable_ pointCount kind left_ right_ many roots) (some (.int z.1))) args s 0 0 (va_A ws0 sz)) (F0 m 31 ls [.int s0]) := by
  obtain ⟨F, hr, hlk, hNw⟩ := id CX
  have hx := F.1
  have hb := F.2.1
  have hown := F.2.2.2.1
  have hA : ∀ q, s.heap.size ≤ q → va_A ws0 sz q := fun q hq => Or.inr (hsz ▸ hq)
  intro thrown y1 s0 H locs ls h hP hD hS hl
  unfold f_X7_told_31 at h
  by_cases o31 : s0.toInt < 0 ∨ 5 < s0.toInt
  · have h := o_t o31 h
    refine lv_tableOut (tgt := 102) hx hb dX7_told_31 o31 (by decide) ?_
    refine lv_iconst (v := 0) hx hb dX7_told_102 (by decide) ?_
    obtain rfl := Option.some.inj h
    exact r_ret (v := 0) F hr hlk rfl dX7_told_103 hsz hP hD hS
  · have h := o_f o31 h
    by_cases e31_0 : s0 = 0
    · have h := o_t e31_0 h
      refine lv_tableIn (off := 37) (tgt := 68) hx hb dX7_told_31 (by rw [e31_0]; decide) (by rw [e31_0]; decide) (by rw [e31_0]; rfl) (by decide) ?_
      refine lv_aload_n hx hb dX7_told_68 rfl (lv_at hl 0 rfl) ?_
      refine r_get F hK hP 0 4 rfl inW_X7 wm_1096 rfl (by decide) rfl dX7_told_69 ?_
      refine lv_aload_n hx hb dX7_told_72 rfl (lv_at hl 0 rfl) ?_
      refine r_get F hK hP 0 9 rfl inW_X7 wm_1101 rfl (by decide) rfl dX7_told_73 ?_
      refine lv_iconst (v := 0) hx hb dX7_told_76 (by decide) ?_
      obtain ⟨hi77, h⟩ := o_ix h
      refine va_iald hx hb hK hP 5 0 rfl rfl hi77 dX7_told_77 ?_
      obtain ⟨hi78, h⟩ := o_ix h
      refine va_iald hx hb hK hP 4 0 rfl rfl hi78 dX7_told_78 ?_
      obtain rfl := Option.some.inj h
      exact r_ret (v := many (roots (0 : Int32).toNatClampNeg).toNatClampNeg) F hr hlk rfl dX7_told_79 hsz hP hD hS
    · have h := o_f e31_0 h
      by_cases e31_1 : s0 = 1
      · have h := o_t e31_1 h
        refine lv_tableIn (off := 49) (tgt := 80) hx hb dX7_told_31 (by rw [e31_1]; decide) (by rw [e31_1]; decide) (by rw [e31_1]; rfl) (by decide) ?_
        exact w_X7_told_80 CX hK hsz thrown y1 _ _ _ h hP hD hS (lv_sub hl [0, 1] rfl)
      · have h := o_f e31_1 h
        by_cases e31_2 : s0 = 2
        · have h := o_t e31_2 h
          refine lv_tableIn (off := 49) (tgt := 80) hx hb dX7_told_31 (by rw [e31_2]; decide) (by rw [e31_2]; decide) (by rw [e31_2]; rfl) (by decide) ?_
          exact w_X7_told_80 CX hK hsz thrown y1 _ _ _ h hP hD hS (lv_sub hl [0, 1] rfl)
        · have h := o_f e31_2 h
          by_cases e31_3 : s0 = 3
          · have h := o_t e31_3 h
            refine lv_tableIn (off := 49) (tgt := 80) hx hb dX7_told_31 (by rw [e31_3]; decide) (by rw [e31_3]; decide) (by rw [e31_3]; rfl) (by decide) ?_
            exact w_X7_told_80 CX hK hsz thrown y1 _ _ _ h hP hD hS (lv_sub hl [0, 1] rfl)
          · have h := o_f e31_3 h
            by_cases e31_4 : s0 = 4
            · have h := o_t e31_4 h
              refine lv_tableIn (off := 61) (tgt := 92) hx hb dX7_told_31 (by rw [e31_4]; decide) (by rw [e31_4]; decide) (by rw [e31_4]; rfl) (by decide) ?_
              refine lv_aload_n hx hb dX7_told_92 rfl (lv_at hl 0 rfl) ?_
              refine r_get F hK hP 0 18 rfl inW_X7 wm_1110 rfl (by decide) rfl dX7_told_93 ?_
              obtain rfl := Option.some.inj h
              exact r_ret (v := points) F hr hlk rfl dX7_told_96 hsz hP hD hS
            · have h := o_f e31_4 h
              by_cases e31_5 : s0 = 5
              · have h := o_t e31_5 h
                refine lv_tableIn (off := 66) (tgt := 97) hx hb dX7_told_31 (by rw [e31_5]; decide) (by rw [e31_5]; decide) (by rw [e31_5]; rfl) (by decide) ?_
                refine lv_aload_n hx hb dX7_told_97 rfl (lv_at hl 0 rfl) ?_
                refine r_get F hK hP 0 19 rfl inW_X7 wm_1111 rfl (by decide) rfl dX7_told_98 ?_
                obtain rfl := Option.some.inj h
                exact r_ret (v := takenOut) F hr hlk rfl dX7_told_101 hsz hP hD hS
              · have h := o_f e31_5 h
                cases h
set_option maxHeartbeats 4000000 in
set_option maxRecDepth 100000 in
theorem w_X7_told_15 (CX : Cx p m c cX7_told 2 s args x0 RX7 meth (some .int)) (hK : va_K D vwCl (ty0 cI cJ cB) s) (hsz : s.heap.size = sz) : ∀ (thrown : Int32) (y1 : Int32) (s1 : Int32) (H : Heap) (locs : List Loc) (ls : Array Slot), f_X7_told_15 N thrown points takenOut kind left_ right_ many roots y1 s1 = some z → va_P D vwCl (ws_X7_told cI cJ cB a0 a_bits a_rows a_table a_moved a_text a_out a_above a_below a_row a_sum a_point a_pointRows a_pointSorts a_kind a_left a_right a_many a_roots thrown used rooted size outSize points takenOut great at_ fault open_ wrong by_ sort variable_ pointCount kind left_ right_ many roots) H → va_D (va_A ws0 sz) (ws_X7_told cI cJ cB a0 a_bits a_rows a_table a_moved a_text a_out a_above a_below a_row a_sum a_point a_pointRows a_pointSorts a_kind a_left a_right a_many a_roots thrown used rooted size outSize points takenOut great at_ fault open_ wrong by_ sort variable_ pointCount kind left_ right_ many roots) → va_S (va_A ws0 sz) s.heap H locs → lv_has ls 2 [(0, .ref a0), (1, .int y1)] → W p l e rm_X7_told s m args below meth c H locs 0 0 (MQ below (gQ D sz ws0 (ws_X7_told cI cJ cB a0 a_bits a_rows a_table a_moved a_text a_out a_above a_below a_row a_sum a_point a_pointRows a_pointSorts a_kind a_left a_right a_many a_roots z.2 used rooted size outSize points takenOut great at_ fault open_ wrong by_ sort variable_ pointCount kind left_ right_ many roots) (some (.int z.1))) args s 0 0 (va_A ws0 sz)) (F0 m 15 ls [.int s1, .ref a0]) := by
  obtain ⟨F, hr, hlk, hNw⟩ := id CX
  have hx := F.1
  have hb := F.2.1
  have hown := F.2.2.2.1
  have hA : ∀ q, s.heap.size ≤ q → va_A ws0 sz q := fun q hq => Or.inr (hsz ▸ hq)
  intro thrown y1 s1 H locs ls h hP hD hS hl
  unfold f_X7_told_15 at h
  refine r_put (wn := (ws_X7_told cI cJ cB a0 a_bits a_rows a_table a_moved a_text a_out a_above a_below a_row a_sum a_point a_pointRows a_pointSorts a_kind a_left a_right a_many a_roots s1 used rooted size outSize points takenOut great at_ fault open_ wrong by_ sort variable_ pointCount kind left_ right_ many roots)) F hK hP hD hS 0 0 rfl inW_X7 wm_1092 tyX7_ok nmX7 rfl rfl (by decide) rfl rfl (Nat.le_of_ble_eq_true rfl) rfl dX7_told_15 (fun H locs hP hD hS => ?_)
  refine lv_aload_n hx hb dX7_told_18 rfl (lv_at hl 0 rfl) ?_
  refine r_get F hK hP 0 0 rfl inW_X7 wm_1092 rfl (by decide) rfl dX7_told_19 ?_
  refine lv_if_le (tgt := 30) hx hb dX7_told_22 (by decide) (fun c22 => ?_) (fun c22 => ?_)
  · have h := o_t c22 h
    refine lv_iload_n hx hb dX7_told_30 rfl (lv_at hl 1 rfl) ?_
    exact w_X7_told_31 CX hK hsz s1 y1 y1 _ _ _ h hP hD hS (lv_sub hl [0, 1] rfl)
  · have h := o_f c22 h
    refine lv_bipush (v := 6) hx hb dX7_told_25 (by decide) ?_
    refine lv_goto (tgt := 31) hx hb dX7_told_27 (by decide) ?_
    exact w_X7_told_31 CX hK hsz s1 y1 6 _ _ _ h hP hD hS (lv_sub hl [0, 1] rfl)
set_option maxHeartbeats 4000000 in
set_option maxRecDepth 100000 in
theorem w_X7_told_10 (CX : Cx p m c cX7_told 2 s args x0 RX7 meth (some .int)) (hK : va_K D vwCl (ty0 cI cJ cB) s) (hsz : s.heap.size = sz) : ∀ (thrown : Int32) (y1 : Int32) (H : Heap) (locs : List Loc) (ls : Array Slot), f_X7_told_10 N thrown points takenOut kind left_ right_ many roots y1 = some z → va_P D vwCl (ws_X7_told cI cJ cB a0 a_bits a_rows a_table a_moved a_text a_out a_above a_below a_row a_sum a_point a_pointRows a_pointSorts a_kind a_left a_right a_many a_roots thrown used rooted size outSize points takenOut great at_ fault open_ wrong by_ sort variable_ pointCount kind left_ right_ many roots) H → va_D (va_A ws0 sz) (ws_X7_told cI cJ cB a0 a_bits a_rows a_table a_moved a_text a_out a_above a_below a_row a_sum a_point a_pointRows a_pointSorts a_kind a_left a_right a_many a_roots thrown used rooted size outSize points takenOut great at_ fault open_ wrong by_ sort variable_ pointCount kind left_ right_ many roots) → va_S (va_A ws0 sz) s.heap H locs → lv_has ls 2 [(0, .ref a0), (1, .int y1)] → W p l e rm_X7_told s m args below meth c H locs 0 0 (MQ below (gQ D sz ws0 (ws_X7_told cI cJ cB a0 a_bits a_rows a_table a_moved a_text a_out a_above a_below a_row a_sum a_point a_pointRows a_pointSorts a_kind a_left a_right a_many a_roots z.2 used rooted size outSize points takenOut great at_ fault open_ wrong by_ sort variable_ pointCount kind left_ right_ many roots) (some (.int z.1))) args s 0 0 (va_A ws0 sz)) (F0 m 10 ls [.ref a0]) := by
  obtain ⟨F, hr, hlk, hNw⟩ := id CX
  have hx := F.1
  have hb := F.2.1
  have hown := F.2.2.2.1
  have hA : ∀ q, s.heap.size ≤ q → va_A ws0 sz q := fun q hq => Or.inr (hsz ▸ hq)
  intro thrown y1 H locs ls h hP hD hS hl
  unfold f_X7_told_10 at h
  refine lv_iconst (v := 1) hx hb dX7_told_10 (by decide) ?_
  refine lv_goto (tgt := 15) hx hb dX7_told_11 (by decide) ?_
  exact w_X7_told_15 CX hK hsz thrown y1 1 _ _ _ h hP hD hS (lv_sub hl [0, 1] rfl)
end G_X7_told
set_option maxHeartbeats 4000000 in
set_option maxRecDepth 100000 in
theorem c_X7_told (l : Launch) (D : va_G) (cI cJ cB : ClassId) (a0 a_bits a_rows a_table a_moved a_text a_out a_above a_below a_row a_sum a_point a_pointRows a_pointSorts a_kind a_left a_right a_many a_roots : Nat) (sz : Nat) (thrown : Int32) (used : Int32) (rooted : Int32) (size : Int32) (outSize : Int32) (points : Int32) (takenOut : Int32) (great : Int32) (at_ : Int32) (fault : Int32) (open_ : Int32) (wrong : Int32) (by_ : Int64) (sort : Int32) (variable_ : Int32) (pointCount : Int32) (kind : Nat → Int32) (left_ : Nat → Int32) (right_ : Nat → Int32) (many : Nat → Int32) (roots : Nat → Int32) (x1 : Int32) (N : Nat) {z : Int32 × (Int32)} (h : f_X7_told N thrown points takenOut kind left_ right_ many roots x1 = some z) : Mg l yX7_told cX7_told 2 (some .int) rm_X7_told D (ty0 cI cJ cB) [.ref a0, .int x1] sz (ws_X7_told cI cJ cB a0 a_bits a_rows a_table a_moved a_text a_out a_above a_below a_row a_sum a_point a_pointRows a_pointSorts a_kind a_left a_right a_many a_roots thrown used rooted size outSize points takenOut great at_ fault open_ wrong by_ sort variable_ pointCount kind left_ right_ many roots) (some (.int z.1)) (ws_X7_told cI cJ cB a0 a_bits a_rows a_table a_moved a_text a_out a_above a_below a_row a_sum a_point a_pointRows a_pointSorts a_kind a_left a_right a_many a_roots z.2 used rooted size outSize points takenOut great at_ fault open_ wrong by_ sort variable_ pointCount kind left_ right_ many roots) := by
  refine Mg.of (by decide) (Nat.le_of_ble_eq_true rfl) ?_
  intro p e s m below meth c CX hK hsz hP hD ls hl
  have CX : Cx p m c cX7_told 2 s ([.ref a0, .int x1] : List Value).toArray (Cond.code yX7_told cX7_told 2 (some .int)) RX7 meth (some .int) := CX
  obtain ⟨F, hr, hlk, hNw⟩ := id CX
  have hx := F.1
  have hb := F.2.1
  have hown := F.2.2.2.1
  have hl : lv_has ls 2 [(0, .ref a0), (1, .int x1)] := hl
  have hS : va_S (va_A (ws_X7_told cI cJ cB a0 a_bits a_rows a_table a_moved a_text a_out a_above a_below a_row a_sum a_point a_pointRows a_pointSorts a_kind a_left a_right a_many a_roots thrown used rooted size outSize points takenOut great at_ fault open_ wrong by_ sort variable_ pointCount kind left_ right_ many roots) sz) s.heap s.heap [] := va_S.rf
  have hA : ∀ q, s.heap.size ≤ q → va_A (ws_X7_told cI cJ cB a0 a_bits a_rows a_table a_moved a_text a_out a_above a_below a_row a_sum a_point a_pointRows a_pointSorts a_kind a_left a_right a_many a_roots thrown used rooted size outSize points takenOut great at_ fault open_ wrong by_ sort variable_ pointCount kind left_ right_ many roots) sz q := fun q hq => Or.inr (hsz ▸ hq)
  unfold f_X7_told at h
  refine lv_aload_n hx hb dX7_told_0 rfl (lv_at hl 0 rfl) ?_
  refine lv_iload_n hx hb dX7_told_1 rfl (lv_at hl 1 rfl) ?_
  refine lv_if_lt (tgt := 10) hx hb dX7_told_2 (by decide) (fun c2 => ?_) (fun c2 => ?_)
  · have h := o_t c2 h
    exact w_X7_told_10 CX hK hsz thrown x1 _ _ _ h hP hD hS (lv_sub hl [0, 1] rfl)
  · have h := o_f c2 h
    refine lv_iload_n hx hb dX7_told_5 rfl (lv_at hl 1 rfl) ?_
    refine lv_iconst (v := 5) hx hb dX7_told_6 (by decide) ?_
    refine lv_icmp_le (tgt := 14) hx hb dX7_told_7 (by decide) (fun c7 => ?_) (fun c7 => ?_)
    · have h := o_t c7 h
      refine lv_iconst (v := 0) hx hb dX7_told_14 (by decide) ?_
      exact w_X7_told_15 CX hK hsz thrown x1 0 _ _ _ h hP hD hS (lv_sub hl [0, 1] rfl)
    · have h := o_f c7 h
      exact w_X7_told_10 CX hK hsz thrown x1 _ _ _ h hP hD hS (lv_sub hl [0, 1] rfl)
section G_X7_say
abbrev ws_X7_say (cI cJ cB : ClassId) (a0 a_kind a_left a_right a_many a_bits a_rows a_table a_roots a_moved a_text a_above a_below a_row a_sum a_point a_pointRows a_pointSorts a_out : Nat) (thrown : Int32) (used : Int32) (rooted : Int32) (size : Int32) (outSize : Int32) (points : Int32) (takenOut : Int32) (great : Int32) (at_ : Int32) (fault : Int32) (open_ : Int32) (wrong : Int32) (by_ : Int64) (sort : Int32) (variable_ : Int32) (pointCount : Int32) (out : Nat → Int32) : va_W := [(a0, .inr (9, [.int thrown, .ref a_kind, .ref a_left, .ref a_right, .ref a_many, .ref a_bits, .ref a_rows, .ref a_table, .int used, .ref a_roots, .int rooted, .ref a_moved, .ref a_text, .int size, .ref a_out, .int outSize, .ref a_above, .ref a_below, .int points, .int takenOut, .int great, .ref a_row, .int at_, .int fault, .int open_, .int wrong, .ref a_sum, .ref a_point, .long by_, .int sort, .int variable_, .ref a_pointRows, .ref a_pointSorts, .int pointCount])), (a_out, .inl (cB, 12000, .inl out))]
abbrev rm_X7_say : Room := { frames := 0, cells := 0, slots := 0, locals := 0 }
def f_X7_say_21 (N : Nat) (outSize : Int32) (out : Nat → Int32) : Option ((Int32) × (Nat → Int32)) := some (outSize + 1, out)
def f_X7_say (N : Nat) (outSize : Int32) (out : Nat → Int32) (x1 : Int32) : Option ((Int32) × (Nat → Int32)) := ifb (12000 ≤ outSize) (f_X7_say_21 N outSize out) (ix outSize 12000 (f_X7_say_21 N outSize (upd out outSize.toNatClampNeg (vp_nar .byte x1.toInt8.toInt32))))
variable {p : Program} {l : Launch} {e : Env} {s : State} {m : MethodId} {below : List Frame} {meth : Method} {c : Code} {args : Array Value} {x0 : Cond} {D : va_G} {cI cJ cB : ClassId} {sz N : Nat} {ws0 : va_W} {a0 a_kind a_left a_right a_many a_bits a_rows a_table a_roots a_moved a_text a_above a_below a_row a_sum a_point a_pointRows a_pointSorts a_out : Nat} {thrown : Int32} {used : Int32} {rooted : Int32} {size : Int32} {points : Int32} {takenOut : Int32} {great : Int32} {at_ : Int32} {fault : Int32} {open_ : Int32} {wrong : Int32} {by_ : Int64} {sort : Int32} {variable_ : Int32} {pointCount : Int32} {z : (Int32) × (Nat → Int32)}
set_option maxHeartbeats 4000000 in
set_option maxRecDepth 100000 in
theorem w_X7_say_21 (CX : Cx p m c cX7_say 2 s args x0 RX7 meth none) (hK : va_K D vwCl (ty0 cI cJ cB) s) (hsz : s.heap.size = sz) : ∀ (outSize : Int32) (out : Nat → Int32) (H : Heap) (locs : List Loc) (ls : Array Slot), f_X7_say_21 N outSize out = some z → va_P D vwCl (ws_X7_say cI cJ cB a0 a_kind a_left a_right a_many a_bits a_rows a_table a_roots a_moved a_text a_above a_below a_row a_sum a_point a_pointRows a_pointSorts a_out thrown used rooted size outSize points takenOut great at_ fault open_ wrong by_ sort variable_ pointCount out) H → va_D (va_A ws0 sz) (ws_X7_say cI cJ cB a0 a_kind a_left a_right a_many a_bits a_rows a_table a_roots a_moved a_text a_above a_below a_row a_sum a_point a_pointRows a_pointSorts a_out thrown used rooted size outSize points takenOut great at_ fault open_ wrong by_ sort variable_ pointCount out) → va_S (va_A ws0 sz) s.heap H locs → lv_has ls 2 [(0, .ref a0)] → W p l e rm_X7_say s m args below meth c H locs 0 0 (MQ below (gQ D sz ws0 (ws_X7_say cI cJ cB a0 a_kind a_left a_right a_many a_bits a_rows a_table a_roots a_moved a_text a_above a_below a_row a_sum a_point a_pointRows a_pointSorts a_out thrown used rooted size z.1 points takenOut great at_ fault open_ wrong by_ sort variable_ pointCount z.2) none) args s 0 0 (va_A ws0 sz)) (F0 m 21 ls []) := by
  obtain ⟨F, hr, hlk, hNw⟩ := id CX
  have hx := F.1
  have hb := F.2.1
  have hown := F.2.2.2.1
  have hA : ∀ q, s.heap.size ≤ q → va_A ws0 sz q := fun q hq => Or.inr (hsz ▸ hq)
  intro outSize out H locs ls h hP hD hS hl
  unfold f_X7_say_21 at h
  refine lv_aload_n hx hb dX7_say_21 rfl (lv_at hl 0 rfl) ?_
  refine lv_dup hx hb dX7_say_22 rfl ?_
  refine r_get F hK hP 0 15 rfl inW_X7 wm_1107 rfl (by decide) rfl dX7_say_23 ?_
  refine lv_iconst (v := 1) hx hb dX7_say_26 (by decide) ?_
  refine lv_iadd hx hb dX7_say_27 ?_
  refine r_put (wn := (ws_X7_say cI cJ cB a0 a_kind a_left a_right a_many a_bits a_rows a_table a_roots a_moved a_text a_above a_below a_row a_sum a_point a_pointRows a_pointSorts a_out thrown used rooted size (outSize + 1) points takenOut great at_ fault open_ wrong by_ sort variable_ pointCount out)) F hK hP hD hS 0 15 rfl inW_X7 wm_1107 tyX7_ok nmX7 rfl rfl (by decide) rfl rfl (Nat.le_of_ble_eq_true rfl) rfl dX7_say_28 (fun H locs hP hD hS => ?_)
  obtain rfl := Option.some.inj h
  exact r_vret F hr hlk dX7_say_31 hsz hP hD hS
end G_X7_say
set_option maxHeartbeats 4000000 in
set_option maxRecDepth 100000 in
theorem c_X7_say (l : Launch) (D : va_G) (cI cJ cB : ClassId) (a0 a_kind a_left a_right a_many a_bits a_rows a_table a_roots a_moved a_text a_above a_below a_row a_sum a_point a_pointRows a_pointSorts a_out : Nat) (sz : Nat) (thrown : Int32) (used : Int32) (rooted : Int32) (size : Int32) (outSize : Int32) (points : Int32) (takenOut : Int32) (great : Int32) (at_ : Int32) (fault : Int32) (open_ : Int32) (wrong : Int32) (by_ : Int64) (sort : Int32) (variable_ : Int32) (pointCount : Int32) (out : Nat → Int32) (x1 : Int32) (N : Nat) {z : (Int32) × (Nat → Int32)} (h : f_X7_say N outSize out x1 = some z) : Mg l yX7_say cX7_say 2 none rm_X7_say D (ty0 cI cJ cB) [.ref a0, .int x1] sz (ws_X7_say cI cJ cB a0 a_kind a_left a_right a_many a_bits a_rows a_table a_roots a_moved a_text a_above a_below a_row a_sum a_point a_pointRows a_pointSorts a_out thrown used rooted size outSize points takenOut great at_ fault open_ wrong by_ sort variable_ pointCount out) none (ws_X7_say cI cJ cB a0 a_kind a_left a_right a_many a_bits a_rows a_table a_roots a_moved a_text a_above a_below a_row a_sum a_point a_pointRows a_pointSorts a_out thrown used rooted size z.1 points takenOut great at_ fault open_ wrong by_ sort variable_ pointCount z.2) := by
  refine Mg.of (by decide) (Nat.le_of_ble_eq_true rfl) ?_
  intro p e s m below meth c CX hK hsz hP hD ls hl
  have CX : Cx p m c cX7_say 2 s ([.ref a0, .int x1] : List Value).toArray (Cond.code yX7_say cX7_say 2 none) RX7 meth none := CX
  obtain ⟨F, hr, hlk, hNw⟩ := id CX
  have hx := F.1
  have hb := F.2.1
  have hown := F.2.2.2.1
  have hl : lv_has ls 2 [(0, .ref a0), (1, .int x1)] := hl
  have hS : va_S (va_A (ws_X7_say cI cJ cB a0 a_kind a_left a_right a_many a_bits a_rows a_table a_roots a_moved a_text a_above a_below a_row a_sum a_point a_pointRows a_pointSorts a_out thrown used rooted size outSize points takenOut great at_ fault open_ wrong by_ sort variable_ pointCount out) sz) s.heap s.heap [] := va_S.rf
  have hA : ∀ q, s.heap.size ≤ q → va_A (ws_X7_say cI cJ cB a0 a_kind a_left a_right a_many a_bits a_rows a_table a_roots a_moved a_text a_above a_below a_row a_sum a_point a_pointRows a_pointSorts a_out thrown used rooted size outSize points takenOut great at_ fault open_ wrong by_ sort variable_ pointCount out) sz q := fun q hq => Or.inr (hsz ▸ hq)
  unfold f_X7_say at h
  refine lv_aload_n hx hb dX7_say_0 rfl (lv_at hl 0 rfl) ?_
  refine r_get F hK hP 0 15 rfl inW_X7 wm_1107 rfl (by decide) rfl dX7_say_1 ?_
  refine lv_sipush (v := 12000) hx hb dX7_say_4 (by decide) ?_
  refine lv_icmp_ge (tgt := 21) hx hb dX7_say_7 (by decide) (fun c7 => ?_) (fun c7 => ?_)
  · have h := o_t c7 h
    exact w_X7_say_21 CX hK hsz outSize out _ _ _ h hP hD hS (lv_sub hl [0] rfl)
  · have h := o_f c7 h
    refine lv_aload_n hx hb dX7_say_10 rfl (lv_at hl 0 rfl) ?_
    refine r_get F hK hP 0 14 rfl inW_X7 wm_1106 rfl (by decide) rfl dX7_say_11 ?_
    refine lv_aload_n hx hb dX7_say_14 rfl (lv_at hl 0 rfl) ?_
    refine r_get F hK hP 0 15 rfl inW_X7 wm_1107 rfl (by decide) rfl dX7_say_15 ?_
    refine lv_iload_n hx hb dX7_say_18 rfl (lv_at hl 1 rfl) ?_
    refine lv_i2b hx hb dX7_say_19 rfl ?_
    obtain ⟨hi20, h⟩ := o_ix h
    refine r_bast (wn := (ws_X7_say cI cJ cB a0 a_kind a_left a_right a_many a_bits a_rows a_table a_roots a_moved a_text a_above a_below a_row a_sum a_point a_pointRows a_pointSorts a_out thrown used rooted size outSize points takenOut great at_ fault open_ wrong by_ sort variable_ pointCount (upd out outSize.toNatClampNeg (vp_nar .byte x1.toInt8.toInt32)))) F hK hP hD hS 1 2 hi20 rfl rfl rfl dX7_say_20 (fun H locs hP hD hS => ?_)
    exact w_X7_say_21 CX hK hsz outSize (upd out outSize.toNatClampNeg (vp_nar .byte x1.toInt8.toInt32)) _ _ _ h hP hD hS (lv_sub hl [0] rfl)
section G_X7_sayNumber
abbrev ws_X7_sayNumber (cI cJ cB : ClassId) (a0 a_kind a_left a_right a_many a_bits a_rows a_table a_roots a_moved a_text a_above a_below a_row a_sum a_point a_pointRows a_pointSorts a_out : Nat) (thrown : Int32) (used : Int32) (rooted : Int32) (size : Int32) (outSize : Int32) (points : Int32) (takenOut : Int32) (great : Int32) (at_ : Int32) (fault : Int32) (open_ : Int32) (wrong : Int32) (by_ : Int64) (sort : Int32) (variable_ : Int32) (pointCount : Int32) (out : Nat → Int32) : va_W := [(a0, .inr (9, [.int thrown, .ref a_kind, .ref a_left, .ref a_right, .ref a_many, .ref a_bits, .ref a_rows, .ref a_table, .int used, .ref a_roots, .int rooted, .ref a_moved, .ref a_text, .int size, .ref a_out, .int outSize, .ref a_above, .ref a_below, .int points, .int takenOut, .int great, .ref a_row, .int at_, .int fault, .int open_, .int wrong, .ref a_sum, .ref a_point, .long by_, .int sort, .int variable_, .ref a_pointRows, .ref a_pointSorts, .int pointCount])), (a_out, .inl (cB, 12000, .inl out))]
abbrev rm_X7_sayNumber : Room := { frames := 1, cells := 0, slots := 0, locals := 21 }
def f_X7_sayNumber_18 (N : Nat) : Nat → Int32 → (Nat → Int32) → Int32 → Int32 → Option ((Int32) × (Nat → Int32))
  | 0 => fun _ _ _ _ => none
  | n + 1 => fun outSize out y1 y2 => ifb (y2 ≤ 0) (some (outSize, out)) (ckp (¬ y2 = 0) ((f_X7_say N outSize out (48 + ((y1 / y2) - (y1 / y2) / 10 * 10))).bind (fun z32 => f_X7_sayNumber_18 N n z32.1 z32.2 y1 (y2 / 10))))
def f_X7_sayNumber_2 (N : Nat) : Nat → Int32 → (Nat → Int32) → Int32 → Int32 → Option ((Int32) × (Nat → Int32))
  | 0 => fun _ _ _ _ => none
  | n + 1 => fun outSize out y1 y2 => ckp (¬ y2 = 0) (ifb ((y1 / y2) < 10) (f_X7_sayNumber_18 N N outSize out y1 y2) (f_X7_sayNumber_2 N n outSize out y1 (y2 * 10)))
def f_X7_sayNumber (N : Nat) (outSize : Int32) (out : Nat → Int32) (x1 : Int32) : Option ((Int32) × (Nat → Int32)) := f_X7_sayNumber_2 N N outSize out x1 1
variable {p : Program} {l : Launch} {e : Env} {s : State} {m : MethodId} {below : List Frame} {meth : Method} {c : Code} {args : Array Value} {x0 : Cond} {D : va_G} {cI cJ cB : ClassId} {sz N : Nat} {ws0 : va_W} {a0 a_kind a_left a_right a_many a_bits a_rows a_table a_roots a_moved a_text a_above a_below a_row a_sum a_point a_pointRows a_pointSorts a_out : Nat} {thrown : Int32} {used : Int32} {rooted : Int32} {size : Int32} {points : Int32} {takenOut : Int32} {great : Int32} {at_ : Int32} {fault : Int32} {open_ : Int32} {wrong : Int32} {by_ : Int64} {sort : Int32} {variable_ : Int32} {pointCount : Int32} {z : (Int32) × (Nat → Int32)}
set_option maxHeartbeats 4000000 in
set_option maxRecDepth 100000 in
theorem w_X7_sayNumber_18 (CX : Cx p m c cX7_sayNumber 3 s args x0 RX7 meth none) (hK : va_K D vwCl (ty0 cI cJ cB) s) (hsz : s.heap.size = sz) : ∀ (n : Nat), ∀ (outSize : Int32) (out : Nat → Int32) (y1 : Int32) (y2 : Int32) (H : Heap) (locs : List Loc) (ls : Array Slot), f_X7_sayNumber_18 N n outSize out y1 y2 = some z → va_P D vwCl (ws_X7_sayNumber cI cJ cB a0 a_kind a_left a_right a_many a_bits a_rows a_table a_roots a_moved a_text a_above a_below a_row a_sum a_point a_pointRows a_pointSorts a_out thrown used rooted size outSize points takenOut great at_ fault open_ wrong by_ sort variable_ pointCount out) H → va_D (va_A ws0 sz) (ws_X7_sayNumber cI cJ cB a0 a_kind a_left a_right a_many a_bits a_rows a_table a_roots a_moved a_text a_above a_below a_row a_sum a_point a_pointRows a_pointSorts a_out thrown used rooted size outSize points takenOut great at_ fault open_ wrong by_ sort variable_ pointCount out) → va_S (va_A ws0 sz) s.heap H locs → lv_has ls 3 [(0, .ref a0), (1, .int y1), (2, .int y2)] → W p l e rm_X7_sayNumber s m args below meth c H locs 0 0 (MQ below (gQ D sz ws0 (ws_X7_sayNumber cI cJ cB a0 a_kind a_left a_right a_many a_bits a_rows a_table a_roots a_moved a_text a_above a_below a_row a_sum a_point a_pointRows a_pointSorts a_out thrown used rooted size z.1 points takenOut great at_ fault open_ wrong by_ sort variable_ pointCount z.2) none) args s 0 0 (va_A ws0 sz)) (F0 m 18 ls []) := by
  obtain ⟨F, hr, hlk, hNw⟩ := id CX
  have hx := F.1
  have hb := F.2.1
  have hown := F.2.2.2.1
  have hA : ∀ q, s.heap.size ≤ q → va_A ws0 sz q := fun q hq => Or.inr (hsz ▸ hq)
  intro n
  induction n with
  | zero =>
    intro outSize out y1 y2 H locs ls h
    cases h
  | succ n ih =>
    intro outSize out y1 y2 H locs ls h hP hD hS hl
    unfold f_X7_sayNumber_18 at h
    refine lv_iload_n hx hb dX7_sayNumber_18 rfl (lv_at hl 2 rfl) ?_
    refine lv_if_le (tgt := 43) hx hb dX7_sayNumber_19 (by decide) (fun c19 => ?_) (fun c19 => ?_)
    · have h := o_t c19 h
      obtain rfl := Option.some.inj h
      exact r_vret F hr hlk dX7_sayNumber_43 hsz hP hD hS
    · have h := o_f c19 h
      refine lv_aload_n hx hb dX7_sayNumber_22 rfl (lv_at hl 0 rfl) ?_
      refine lv_bipush (v := 48) hx hb dX7_sayNumber_23 (by decide) ?_
      refine lv_iload_n hx hb dX7_sayNumber_25 rfl (lv_at hl 1 rfl) ?_
      refine lv_iload_n hx hb dX7_sayNumber_26 rfl (lv_at hl 2 rfl) ?_
      obtain ⟨hc27, h⟩ := o_c h
      refine lv_idiv hx hb dX7_sayNumber_27 hc27 ?_
      refine lv_bipush (v := 10) hx hb dX7_sayNumber_28 (by decide) ?_
      refine lv_irem hx hb dX7_sayNumber_30 (by decide) ?_
      refine lv_iadd hx hb dX7_sayNumber_31 ?_
      obtain ⟨z32, hz32, h⟩ := o_b h
      refine k_v (wn := (ws_X7_sayNumber cI cJ cB a0 a_kind a_left a_right a_many a_bits a_rows a_table a_roots a_moved a_text a_above a_below a_row a_sum a_point a_pointRows a_pointSorts a_out thrown used rooted size z32.1 points takenOut great at_ fault open_ wrong by_ sort variable_ pointCount z32.2)) (As := [.int (48 + ((y1 / y2) - (y1 / y2) / 10 * 10))]) (rest := []) F hNw hK hP hD hS hA (c_X7_say l D cI cJ cB a0 a_kind a_left a_right a_many a_bits a_rows a_table a_roots a_moved a_text a_above a_below a_row a_sum a_point a_pointRows a_pointSorts a_out _ thrown used rooted size outSize points takenOut great at_ fault open_ wrong by_ sort variable_ pointCount out (48 + ((y1 / y2) - (y1 / y2) / 10 * 10)) N hz32) wm_1367 cv_X7_say [0, 1] [] [0, 1] (⟨rfl, rfl, rfl, by decide, rfl⟩ : Ix [0, 1] [] [0, 1] 2) rfl (hN_of 0 2 (by decide +kernel) rfl (by decide +kernel) rfl) rfl rfl rfl rfl ⟨rfl, rfl, by decide, by decide⟩ hl.1 rfl (Nat.le_of_ble_eq_true rfl) ⟨Nat.zero_le _, Nat.zero_le _⟩ dX7_sayNumber_32 (fun H locs hP hD hS => ?_)
      refine lv_iload_n hx hb dX7_sayNumber_35 rfl (lv_at hl 2 rfl) ?_
      refine lv_bipush (v := 10) hx hb dX7_sayNumber_36 (by decide) ?_
      refine lv_idiv hx hb dX7_sayNumber_38 (by decide) ?_
      refine lv_istore_n (lv' := [(2, .int (y2 / 10)), (0, .ref a0), (1, .int y1)]) hx hb dX7_sayNumber_39 rfl hl (by decide) rfl (fun ls hl => ?_)
      refine lv_goto (tgt := 18) hx hb dX7_sayNumber_40 (by decide) ?_
      exact ih z32.1 z32.2 y1 (y2 / 10) _ _ _ h hP hD hS (lv_sub hl [1, 2, 0] rfl)
set_option maxHeartbeats 4000000 in
set_option maxRecDepth 100000 in
theorem w_X7_sayNumber_2 (CX : Cx p m c cX7_sayNumber 3 s args x0 RX7 meth none) (hK : va_K D vwCl (ty0 cI cJ cB) s) (hsz : s.heap.size = sz) : ∀ (n : Nat), ∀ (outSize : Int32) (out : Nat → Int32) (y1 : Int32) (y2 : Int32) (H : Heap) (locs : List Loc) (ls : Array Slot), f_X7_sayNumber_2 N n outSize out y1 y2 = some z → va_P D vwCl (ws_X7_sayNumber cI cJ cB a0 a_kind a_left a_right a_many a_bits a_rows a_table a_roots a_moved a_text a_above a_below a_row a_sum a_point a_pointRows a_pointSorts a_out thrown used rooted size outSize points takenOut great at_ fault open_ wrong by_ sort variable_ pointCount out) H → va_D (va_A ws0 sz) (ws_X7_sayNumber cI cJ cB a0 a_kind a_left a_right a_many a_bits a_rows a_table a_roots a_moved a_text a_above a_below a_row a_sum a_point a_pointRows a_pointSorts a_out thrown used rooted size outSize points takenOut great at_ fault open_ wrong by_ sort variable_ pointCount out) → va_S (va_A ws0 sz) s.heap H locs → lv_has ls 3 [(0, .ref a0), (1, .int y1), (2, .int y2)] → W p l e rm_X7_sayNumber s m args below meth c H locs 0 0 (MQ below (gQ D sz ws0 (ws_X7_sayNumber cI cJ cB a0 a_kind a_left a_right a_many a_bits a_rows a_table a_roots a_moved a_text a_above a_below a_row a_sum a_point a_pointRows a_pointSorts a_out thrown used rooted size z.1 points takenOut great at_ fault open_ wrong by_ sort variable_ pointCount z.2) none) args s 0 0 (va_A ws0 sz)) (F0 m 2 ls []) := by
  obtain ⟨F, hr, hlk, hNw⟩ := id CX
  have hx := F.1
  have hb := F.2.1
  have hown := F.2.2.2.1
  have hA : ∀ q, s.heap.size ≤ q → va_A ws0 sz q := fun q hq => Or.inr (hsz ▸ hq)
  intro n
  induction n with
  | zero =>
    intro outSize out y1 y2 H locs ls h
    cases h
  | succ n ih =>
    intro outSize out y1 y2 H locs ls h hP hD hS hl
    unfold f_X7_sayNumber_2 at h
    refine lv_iload_n hx hb dX7_sayNumber_2 rfl (lv_at hl 1 rfl) ?_
    refine lv_iload_n hx hb dX7_sayNumber_3 rfl (lv_at hl 2 rfl) ?_
    obtain ⟨hc4, h⟩ := o_c h
    refine lv_idiv hx hb dX7_sayNumber_4 hc4 ?_
    refine lv_bipush (v := 10) hx hb dX7_sayNumber_5 (by decide) ?_
    refine lv_icmp_lt (tgt := 18) hx hb dX7_sayNumber_7 (by decide) (fun c7 => ?_) (fun c7 => ?_)
    · have h := o_t c7 h
      exact w_X7_sayNumber_18 CX hK hsz N outSize out y1 y2 _ _ _ h hP hD hS (lv_sub hl [0, 1, 2] rfl)
    · have h := o_f c7 h
      refine lv_iload_n hx hb dX7_sayNumber_10 rfl (lv_at hl 2 rfl) ?_
      refine lv_bipush (v := 10) hx hb dX7_sayNumber_11 (by decide) ?_
      refine lv_imul hx hb dX7_sayNumber_13 ?_
      refine lv_istore_n (lv' := [(2, .int (y2 * 10)), (0, .ref a0), (1, .int y1)]) hx hb dX7_sayNumber_14 rfl hl (by decide) rfl (fun ls hl => ?_)
      refine lv_goto (tgt := 2) hx hb dX7_sayNumber_15 (by decide) ?_
      exact ih outSize out y1 (y2 * 10) _ _ _ h hP hD hS (lv_sub hl [1, 2, 0] rfl)
end G_X7_sayNumber
set_option maxHeartbeats 4000000 in
set_option maxRecDepth 100000 in
theorem c_X7_sayNumber (l : Launch) (D : va_G) (cI cJ cB : ClassId) (a0 a_kind a_left a_right a_many a_bits a_rows a_table a_roots a_moved a_text a_above a_below a_row a_sum a_point a_pointRows a_pointSorts a_out : Nat) (sz : Nat) (thrown : Int32) (used : Int32) (rooted : Int32) (size : Int32) (outSize : Int32) (points : Int32) (takenOut : Int32) (great : Int32) (at_ : Int32) (fault : Int32) (open_ : Int32) (wrong : Int32) (by_ : Int64) (sort : Int32) (variable_ : Int32) (pointCount : Int32) (out : Nat → Int32) (x1 : Int32) (N : Nat) {z : (Int32) × (Nat → Int32)} (h : f_X7_sayNumber N outSize out x1 = some z) : Mg l yX7_sayNumber cX7_sayNumber 3 none rm_X7_sayNumber D (ty0 cI cJ cB) [.ref a0, .int x1] sz (ws_X7_sayNumber cI cJ cB a0 a_kind a_left a_right a_many a_bits a_rows a_table a_roots a_moved a_text a_above a_below a_row a_sum a_point a_pointRows a_pointSorts a_out thrown used rooted size outSize points takenOut great at_ fault open_ wrong by_ sort variable_ pointCount out) none (ws_X7_sayNumber cI cJ cB a0 a_kind a_left a_right a_many a_bits a_rows a_table a_roots a_moved a_text a_above a_below a_row a_sum a_point a_pointRows a_pointSorts a_out thrown used rooted size z.1 points takenOut great at_ fault open_ wrong by_ sort variable_ pointCount z.2) := by
  refine Mg.of (by decide) (Nat.le_of_ble_eq_true rfl) ?_
  intro p e s m below meth c CX hK hsz hP hD ls hl
  have CX : Cx p m c cX7_sayNumber 3 s ([.ref a0, .int x1] : List Value).toArray (Cond.code yX7_sayNumber cX7_sayNumber 3 none) RX7 meth none := CX
  obtain ⟨F, hr, hlk, hNw⟩ := id CX
  have hx := F.1
  have hb := F.2.1
  have hown := F.2.2.2.1
  have hl : lv_has ls 3 [(0, .ref a0), (1, .int x1)] := hl
  have hS : va_S (va_A (ws_X7_sayNumber cI cJ cB a0 a_kind a_left a_right a_many a_bits a_rows a_table a_roots a_moved a_text a_above a_below a_row a_sum a_point a_pointRows a_pointSorts a_out thrown used rooted size outSize points takenOut great at_ fault open_ wrong by_ sort variable_ pointCount out) sz) s.heap s.heap [] := va_S.rf
  have hA : ∀ q, s.heap.size ≤ q → va_A (ws_X7_sayNumber cI cJ cB a0 a_kind a_left a_right a_many a_bits a_rows a_table a_roots a_moved a_text a_above a_below a_row a_sum a_point a_pointRows a_pointSorts a_out thrown used rooted size outSize points takenOut great at_ fault open_ wrong by_ sort variable_ pointCount out) sz q := fun q hq => Or.inr (hsz ▸ hq)
  unfold f_X7_sayNumber at h
  refine lv_iconst (v := 1) hx hb dX7_sayNumber_0 (by decide) ?_
  refine lv_istore_n (lv' := [(2, .int 1), (0, .ref a0), (1, .int x1)]) hx hb dX7_sayNumber_1 rfl hl (by decide) rfl (fun ls hl => ?_)
  exact w_X7_sayNumber_2 CX hK hsz N outSize out x1 1 _ _ _ h hP hD hS (lv_sub hl [1, 2, 0] rfl)
section G_X7_sayAtom
abbrev ws_X7_sayAtom (cI cJ cB : ClassId) (a0 a_kind a_right a_many a_bits a_table a_roots a_moved a_text a_above a_below a_row a_sum a_point a_pointRows a_pointSorts a_left a_rows a_out : Nat) (thrown : Int32) (used : Int32) (rooted : Int32) (size : Int32) (outSize : Int32) (points : Int32) (takenOut : Int32) (great : Int32) (at_ : Int32) (fault : Int32) (open_ : Int32) (wrong : Int32) (by_ : Int64) (sort : Int32) (variable_ : Int32) (pointCount : Int32) (left_ : Nat → Int32) (rows : Nat → Int32) (out : Nat → Int32) : va_W := [(a0, .inr (9, [.int thrown, .ref a_kind, .ref a_left, .ref a_right, .ref a_many, .ref a_bits, .ref a_rows, .ref a_table, .int used, .ref a_roots, .int rooted, .ref a_moved, .ref a_text, .int size, .ref a_out, .int outSize, .ref a_above, .ref a_below, .int points, .int takenOut, .int great, .ref a_row, .int at_, .int fault, .int open_, .int wrong, .ref a_sum, .ref a_point, .long by_, .int sort, .int variable_, .ref a_pointRows, .ref a_pointSorts, .int pointCount])), (a_left, .inl (cI, 24000, .inl left_)), (a_rows, .inl (cI, 216000, .inl rows)), (a_out, .inl (cB, 12000, .inl out))]
abbrev rm_X7_sayAtom : Room := { frames := 2, cells := 0, slots := 0, locals := 43 }
def f_X7_sayAtom_101 (K4 : Int32 → (Nat → Int32) → (Nat → Int32) → (Nat → Int32) → Int32 → Int32 → Int32 → Option ((Int32) × (Nat → Int32))) (N : Nat) (outSize : Int32) (left_ : Nat → Int32) (rows : Nat → Int32) (out : Nat → Int32) (y1 : Int32) (y2 : Int32) (y3 : Int32) : Option ((Int32) × (Nat → Int32)) := K4 outSize left_ rows out y1 y2 (y3 + 1)
def f_X7_sayAtom_99 (K4 : Int32 → (Nat → Int32) → (Nat → Int32) → (Nat → Int32) → Int32 → Int32 → Int32 → Option ((Int32) × (Nat → Int32))) (N : Nat) (outSize : Int32) (left_ : Nat → Int32) (rows : Nat → Int32) (out : Nat → Int32) (y1 : Int32) (y3 : Int32) : Option ((Int32) × (Nat → Int32)) := f_X7_sayAtom_101 K4 N outSize left_ rows out y1 0 y3
def f_X7_sayAtom_85 (K4 : Int32 → (Nat → Int32) → (Nat → Int32) → (Nat → Int32) → Int32 → Int32 → Int32 → Option ((Int32) × (Nat → Int32))) (N : Nat) (outSize : Int32) (left_ : Nat → Int32) (rows : Nat → Int32) (out : Nat → Int32) (y1 : Int32) (y3 : Int32) : Option ((Int32) × (Nat → Int32)) := ifb (8 ≤ y3) (f_X7_sayAtom_99 K4 N outSize left_ rows out y1 y3) ((f_X7_say N outSize out (97 + y3)).bind (fun z96 => f_X7_sayAtom_99 K4 N z96.1 left_ rows z96.2 y1 y3))
def f_X7_sayAtom_79 (K4 : Int32 → (Nat → Int32) → (Nat → Int32) → (Nat → Int32) → Int32 → Int32 → Int32 → Option ((Int32) × (Nat → Int32))) (N : Nat) (outSize : Int32) (left_ : Nat → Int32) (rows : Nat → Int32) (out : Nat → Int32) (y1 : Int32) (y3 : Int32) (y5 : Int32) : Option ((Int32) × (Nat → Int32)) := (f_X7_sayNumber N outSize out y5).bind (fun z82 => f_X7_sayAtom_85 K4 N z82.1 left_ rows z82.2 y1 y3)
def f_X7_sayAtom_65 (K4 : Int32 → (Nat → Int32) → (Nat → Int32) → (Nat → Int32) → Int32 → Int32 → Int32 → Option ((Int32) × (Nat → Int32))) (N : Nat) (outSize : Int32) (left_ : Nat → Int32) (rows : Nat → Int32) (out : Nat → Int32) (y1 : Int32) (y3 : Int32) (s0 : Int32) : Option ((Int32) × (Nat → Int32)) := ifb (y3 = 8) (f_X7_sayAtom_79 K4 N outSize left_ rows out y1 y3 s0) (ifb (s0 ≤ 1) (f_X7_sayAtom_85 K4 N outSize left_ rows out y1 y3) (f_X7_sayAtom_79 K4 N outSize left_ rows out y1 y3 s0))
def f_X7_sayAtom_52 (K4 : Int32 → (Nat → Int32) → (Nat → Int32) → (Nat → Int32) → Int32 → Int32 → Int32 → Option ((Int32) × (Nat → Int32))) (N : Nat) (outSize : Int32) (left_ : Nat → Int32) (rows : Nat → Int32) (out : Nat → Int32) (y1 : Int32) (y3 : Int32) (y4 : Int32) : Option ((Int32) × (Nat → Int32)) := ifb (0 ≤ y4) (f_X7_sayAtom_65 K4 N outSize left_ rows out y1 y3 y4) (f_X7_sayAtom_65 K4 N outSize left_ rows out y1 y3 (-y4))
def f_X7_sayAtom_147 (N : Nat) (outSize : Int32) (left_ : Nat → Int32) (rows : Nat → Int32) (out : Nat → Int32) : Option ((Int32) × (Nat → Int32)) := (f_X7_say N outSize out 48).bind (fun z150 => some (z150.1, z150.2))
def f_X7_sayAtom_136 (N : Nat) (outSize : Int32) (left_ : Nat → Int32) (rows : Nat → Int32) (out : Nat → Int32) (y3 : Int32) : Option ((Int32) × (Nat → Int32)) := ifb (y3 = 2) (f_X7_sayAtom_147 N outSize left_ rows out) ((f_X7_say N outSize out 61).bind (fun z144 => f_X7_sayAtom_147 N z144.1 left_ rows z144.2))
def f_X7_sayAtom_125 (N : Nat) (outSize : Int32) (left_ : Nat → Int32) (rows : Nat → Int32) (out : Nat → Int32) (y3 : Int32) : Option ((Int32) × (Nat → Int32)) := ifb (y3 < 2) (f_X7_sayAtom_136 N outSize left_ rows out y3) ((f_X7_say N outSize out 60).bind (fun z133 => f_X7_sayAtom_136 N z133.1 left_ rows z133.2 y3))
def f_X7_sayAtom_4 (N : Nat) : Nat → Int32 → (Nat → Int32) → (Nat → Int32) → (Nat → Int32) → Int32 → Int32 → Int32 → Option ((Int32) × (Nat → Int32))
  | 0 => fun _ _ _ _ _ _ _ => none
  | n + 1 => fun outSize left_ rows out y1 y2 y3 => ifb (9 ≤ y3) (ix y1 24000 (ifb ((left_ y1.toNatClampNeg) = 1) ((f_X7_say N outSize out 33).bind (fun z122 => f_X7_sayAtom_125 N z122.1 left_ rows z122.2 (left_ y1.toNatClampNeg))) (f_X7_sayAtom_125 N outSize left_ rows out (left_ y1.toNatClampNeg)))) (ix ((9 * y1) + y3) 216000 (ifb ((rows ((9 * y1) + y3).toNatClampNeg) = 0) (f_X7_sayAtom_101 (f_X7_sayAtom_4 N n) N outSize left_ rows out y1 y2 y3) (ifb (0 ≤ (rows ((9 * y1) + y3).toNatClampNeg)) (ifb (y2 = 0) ((f_X7_say N outSize out 43).bind (fun z49 => f_X7_sayAtom_52 (f_X7_sayAtom_4 N n) N z49.1 left_ rows z49.2 y1 y3 (rows ((9 * y1) + y3).toNatClampNeg))) (f_X7_sayAtom_52 (f_X7_sayAtom_4 N n) N outSize left_ rows out y1 y3 (rows ((9 * y1) + y3).toNatClampNeg))) ((f_X7_say N outSize out 45).bind (fun z36 => f_X7_sayAtom_52 (f_X7_sayAtom_4 N n) N z36.1 left_ rows z36.2 y1 y3 (rows ((9 * y1) + y3).toNatClampNeg))))))
def f_X7_sayAtom (N : Nat) (outSize : Int32) (left_ : Nat → Int32) (rows : Nat → Int32) (out : Nat → Int32) (x1 : Int32) : Option ((Int32) × (Nat → Int32)) := f_X7_sayAtom_4 N N outSize left_ rows out x1 1 0
variable {p : Program} {l : Launch} {e : Env} {s : State} {m : MethodId} {below : List Frame} {meth : Method} {c : Code} {args : Array Value} {x0 : Cond} {D : va_G} {cI cJ cB : ClassId} {sz N : Nat} {ws0 : va_W} {a0 a_kind a_right a_many a_bits a_table a_roots a_moved a_text a_above a_below a_row a_sum a_point a_pointRows a_pointSorts a_left a_rows a_out : Nat} {thrown : Int32} {used : Int32} {rooted : Int32} {size : Int32} {points : Int32} {takenOut : Int32} {great : Int32} {at_ : Int32} {fault : Int32} {open_ : Int32} {wrong : Int32} {by_ : Int64} {sort : Int32} {variable_ : Int32} {pointCount : Int32} {left_ : Nat → Int32} {rows : Nat → Int32} {z : (Int32) × (Nat → Int32)}
set_option maxHeartbeats 4000000 in
set_option maxRecDepth 100000 in
theorem w_X7_sayAtom_101 (CX : Cx p m c cX7_sayAtom 6 s args x0 RX7 meth none) (hK : va_K D vwCl (ty0 cI cJ cB) s) (hsz : s.heap.size = sz) {K4 : Int32 → (Nat → Int32) → (Nat → Int32) → (Nat → Int32) → Int32 → Int32 → Int32 → Option ((Int32) × (Nat → Int32))} (hK4 : ∀ (outSize : Int32) (out : Nat → Int32) (y1 : Int32) (y2 : Int32) (y3 : Int32) (H : Heap) (locs : List Loc) (ls : Array Slot), K4 outSize left_ rows out y1 y2 y3 = some z → va_P D vwCl (ws_X7_sayAtom cI cJ cB a0 a_kind a_right a_many a_bits a_table a_roots a_moved a_text a_above a_below a_row a_sum a_point a_pointRows a_pointSorts a_left a_rows a_out thrown used rooted size outSize points takenOut great at_ fault open_ wrong by_ sort variable_ pointCount left_ rows out) H → va_D (va_A ws0 sz) (ws_X7_sayAtom cI cJ cB a0 a_kind a_right a_many a_bits a_table a_roots a_moved a_text a_above a_below a_row a_sum a_point a_pointRows a_pointSorts a_left a_rows a_out thrown used rooted size outSize points takenOut great at_ fault open_ wrong by_ sort variable_ pointCount left_ rows out) → va_S (va_A ws0 sz) s.heap H locs → lv_has ls 6 [(0, .ref a0), (1, .int y1), (2, .int y2), (3, .int y3)] → W p l e rm_X7_sayAtom s m args below meth c H locs 0 0 (MQ below (gQ D sz ws0 (ws_X7_sayAtom cI cJ cB a0 a_kind a_right a_many a_bits a_table a_roots a_moved a_text a_above a_below a_row a_sum a_point a_pointRows a_pointSorts a_left a_rows a_out thrown used rooted size z.1 points takenOut great at_ fault open_ wrong by_ sort variable_ pointCount left_ rows z.2) none) args s 0 0 (va_A ws0 sz)) (F0 m 4 ls [])) : ∀ (outSize : Int32) (out : Nat → Int32) (y1 : Int32) (y2 : Int32) (y3 : Int32) (H : Heap) (locs : List Loc) (ls : Array Slot), f_X7_sayAtom_101 K4 N outSize left_ rows out y1 y2 y3 = some z → va_P D vwCl (ws_X7_sayAtom cI cJ cB a0 a_kind a_right a_many a_bits a_table a_roots a_moved a_text a_above a_below a_row a_sum a_point a_pointRows a_pointSorts a_left a_rows a_out thrown used rooted size outSize points takenOut great at_ fault open_ wrong by_ sort variable_ pointCount left_ rows out) H → va_D (va_A ws0 sz) (ws_X7_sayAtom cI cJ cB a0 a_kind a_right a_many a_bits a_table a_roots a_moved a_text a_above a_below a_row a_sum a_point a_pointRows a_pointSorts a_left a_rows a_out thrown used rooted size outSize points takenOut great at_ fault open_ wrong by_ sort variable_ pointCount left_ rows out) → va_S (va_A ws0 sz) s.heap H locs → lv_has ls 6 [(0, .ref a0), (1, .int y1), (2, .int y2), (3, .int y3)] → W p l e rm_X7_sayAtom s m args below meth c H locs 0 0 (MQ below (gQ D sz ws0 (ws_X7_sayAtom cI cJ cB a0 a_kind a_right a_many a_bits a_table a_roots a_moved a_text a_above a_below a_row a_sum a_point a_pointRows a_pointSorts a_left a_rows a_out thrown used rooted size z.1 points takenOut great at_ fault open_ wrong by_ sort variable_ pointCount left_ rows z.2) none) args s 0 0 (va_A ws0 sz)) (F0 m 101 ls []) := by
  obtain ⟨F, hr, hlk, hNw⟩ := id CX
  have hx := F.1
  have hb := F.2.1
  have hown := F.2.2.2.1
  have hA : ∀ q, s.heap.size ≤ q → va_A ws0 sz q := fun q hq => Or.inr (hsz ▸ hq)
  intro outSize out y1 y2 y3 H locs ls h hP hD hS hl
  unfold f_X7_sayAtom_101 at h
  refine lv_iinc (v := y3 + 1) (lv' := [(3, .int (y3 + 1)), (0, .ref a0), (1, .int y1), (2, .int y2)]) hx hb dX7_sayAtom_101 hl (k := 3) rfl rfl (by decide) rfl (fun ls hl => ?_)
  refine lv_goto (tgt := 4) hx hb dX7_sayAtom_104 (by decide) ?_
  exact hK4 outSize out y1 y2 (y3 + 1) _ _ _ h hP hD hS (lv_sub hl [1, 2, 3, 0] rfl)
set_option maxHeartbeats 4000000 in
set_option maxRecDepth 100000 in
theorem w_X7_sayAtom_99 (CX : Cx p m c cX7_sayAtom 6 s args x0 RX7 meth none) (hK : va_K D vwCl (ty0 cI cJ cB) s) (hsz : s.heap.size = sz) {K4 : Int32 → (Nat → Int32) → (Nat → Int32) → (Nat → Int32) → Int32 → Int32 → Int32 → Option ((Int32) × (Nat → Int32))} (hK4 : ∀ (outSize : Int32) (out : Nat → Int32) (y1 : Int32) (y2 : Int32) (y3 : Int32) (H : Heap) (locs : List Loc) (ls : Array Slot), K4 outSize left_ rows out y1 y2 y3 = some z → va_P D vwCl (ws_X7_sayAtom cI cJ cB a0 a_kind a_right a_many a_bits a_table a_roots a_moved a_text a_above a_below a_row a_sum a_point a_pointRows a_pointSorts a_left a_rows a_out thrown used rooted size outSize points takenOut great at_ fault open_ wrong by_ sort variable_ pointCount left_ rows out) H → va_D (va_A ws0 sz) (ws_X7_sayAtom cI cJ cB a0 a_kind a_right a_many a_bits a_table a_roots a_moved a_text a_above a_below a_row a_sum a_point a_pointRows a_pointSorts a_left a_rows a_out thrown used rooted size outSize points takenOut great at_ fault open_ wrong by_ sort variable_ pointCount left_ rows out) → va_S (va_A ws0 sz) s.heap H locs → lv_has ls 6 [(0, .ref a0), (1, .int y1), (2, .int y2), (3, .int y3)] → W p l e rm_X7_sayAtom s m args below meth c H locs 0 0 (MQ below (gQ D sz ws0 (ws_X7_sayAtom cI cJ cB a0 a_kind a_right a_many a_bits a_table a_roots a_moved a_text a_above a_below a_row a_sum a_point a_pointRows a_pointSorts a_left a_rows a_out thrown used rooted size z.1 points takenOut great at_ fault open_ wrong by_ sort variable_ pointCount left_ rows z.2) none) args s 0 0 (va_A ws0 sz)) (F0 m 4 ls [])) : ∀ (outSize : Int32) (out : Nat → Int32) (y1 : Int32) (y3 : Int32) (H : Heap) (locs : List Loc) (ls : Array Slot), f_X7_sayAtom_99 K4 N outSize left_ rows out y1 y3 = some z → va_P D vwCl (ws_X7_sayAtom cI cJ cB a0 a_kind a_right a_many a_bits a_table a_roots a_moved a_text a_above a_below a_row a_sum a_point a_pointRows a_pointSorts a_left a_rows a_out thrown used rooted size outSize points takenOut great at_ fault open_ wrong by_ sort variable_ pointCount left_ rows out) H → va_D (va_A ws0 sz) (ws_X7_sayAtom cI cJ cB a0 a_kind a_right a_many a_bits a_table a_roots a_moved a_text a_above a_below a_row a_sum a_point a_pointRows a_pointSorts a_left a_rows a_out thrown used rooted size outSize points takenOut great at_ fault open_ wrong by_ sort variable_ pointCount left_ rows out) → va_S (va_A ws0 sz) s.heap H locs → lv_has ls 6 [(0, .ref a0), (1, .int y1), (3, .int y3)] → W p l e rm_X7_sayAtom s m args below meth c H locs 0 0 (MQ below (gQ D sz ws0 (ws_X7_sayAtom cI cJ cB a0 a_kind a_right a_many a_bits a_table a_roots a_moved a_text a_above a_below a_row a_sum a_point a_pointRows a_pointSorts a_left a_rows a_out thrown used rooted size z.1 points takenOut great at_ fault open_ wrong by_ sort variable_ pointCount left_ rows z.2) none) args s 0 0 (va_A ws0 sz)) (F0 m 99 ls []) := by
  obtain ⟨F, hr, hlk, hNw⟩ := id CX
  have hx := F.1
  have hb := F.2.1
  have hown := F.2.2.2.1
  have hA : ∀ q, s.heap.size ≤ q → va_A ws0 sz q := fun q hq => Or.inr (hsz ▸ hq)
  intro outSize out y1 y3 H locs ls h hP hD hS hl
  unfold f_X7_sayAtom_99 at h
  refine lv_iconst (v := 0) hx hb dX7_sayAtom_99 (by decide) ?_
  refine lv_istore_n (lv' := [(2, .int 0), (0, .ref a0), (1, .int y1), (3, .int y3)]) hx hb dX7_sayAtom_100 rfl hl (by decide) rfl (fun ls hl => ?_)
  exact w_X7_sayAtom_101 CX hK hsz (hK4 := hK4) outSize out y1 0 y3 _ _ _ h hP hD hS (lv_sub hl [1, 2, 0, 3] rfl)
set_option maxHeartbeats 4000000 in
set_option maxRecDepth 100000 in
theorem w_X7_sayAtom_85 (CX : Cx p m c cX7_sayAtom 6 s args x0 RX7 meth none) (hK : va_K D vwCl (ty0 cI cJ cB) s) (hsz : s.heap.size = sz) {K4 : Int32 → (Nat → Int32) → (Nat → Int32) → (Nat → Int32) → Int32 → Int32 → Int32 → Option ((Int32) × (Nat → Int32))} (hK4 : ∀ (outSize : Int32) (out : Nat → Int32) (y1 : Int32) (y2 : Int32) (y3 : Int32) (H : Heap) (locs : List Loc) (ls : Array Slot), K4 outSize left_ rows out y1 y2 y3 = some z → va_P D vwCl (ws_X7_sayAtom cI cJ cB a0 a_kind a_right a_many a_bits a_table a_roots a_moved a_text a_above a_below a_row a_sum a_point a_pointRows a_pointSorts a_left a_rows a_out thrown used rooted size outSize points takenOut great at_ fault open_ wrong by_ sort variable_ pointCount left_ rows out) H → va_D (va_A ws0 sz) (ws_X7_sayAtom cI cJ cB a0 a_kind a_right a_many a_bits a_table a_roots a_moved a_text a_above a_below a_row a_sum a_point a_pointRows a_pointSorts a_left a_rows a_out thrown used rooted size outSize points takenOut great at_ fault open_ wrong by_ sort variable_ pointCount left_ rows out) → va_S (va_A ws0 sz) s.heap H locs → lv_has ls 6 [(0, .ref a0), (1, .int y1), (2, .int y2), (3, .int y3)] → W p l e rm_X7_sayAtom s m args below meth c H locs 0 0 (MQ below (gQ D sz ws0 (ws_X7_sayAtom cI cJ cB a0 a_kind a_right a_many a_bits a_table a_roots a_moved a_text a_above a_below a_row a_sum a_point a_pointRows a_pointSorts a_left a_rows a_out thrown used rooted size z.1 points takenOut great at_ fault open_ wrong by_ sort variable_ pointCount left_ rows z.2) none) args s 0 0 (va_A ws0 sz)) (F0 m 4 ls [])) : ∀ (outSize : Int32) (out : Nat → Int32) (y1 : Int32) (y3 : Int32) (H : Heap) (locs : List Loc) (ls : Array Slot), f_X7_sayAtom_85 K4 N outSize left_ rows out y1 y3 = some z → va_P D vwCl (ws_X7_sayAtom cI cJ cB a0 a_kind a_right a_many a_bits a_table a_roots a_moved a_text a_above a_below a_row a_sum a_point a_pointRows a_pointSorts a_left a_rows a_out thrown used rooted size outSize points takenOut great at_ fault open_ wrong by_ sort variable_ pointCount left_ rows out) H → va_D (va_A ws0 sz) (ws_X7_sayAtom cI cJ cB a0 a_kind a_right a_many a_bits a_table a_roots a_moved a_text a_above a_below a_row a_sum a_point a_pointRows a_pointSorts a_left a_rows a_out thrown used rooted size outSize points takenOut great at_ fault open_ wrong by_ sort variable_ pointCount left_ rows out) → va_S (va_A ws0 sz) s.heap H locs → lv_has ls 6 [(0, .ref a0), (1, .int y1), (3, .int y3)] → W p l e rm_X7_sayAtom s m args below meth c H locs 0 0 (MQ below (gQ D sz ws0 (ws_X7_sayAtom cI cJ cB a0 a_kind a_right a_many a_bits a_table a_roots a_moved a_text a_above a_below a_row a_sum a_point a_pointRows a_pointSorts a_left a_rows a_out thrown used rooted size z.1 points takenOut great at_ fault open_ wrong by_ sort variable_ pointCount left_ rows z.2) none) args s 0 0 (va_A ws0 sz)) (F0 m 85 ls []) := by
  obtain ⟨F, hr, hlk, hNw⟩ := id CX
  have hx := F.1
  have hb := F.2.1
  have hown := F.2.2.2.1
  have hA : ∀ q, s.heap.size ≤ q → va_A ws0 sz q := fun q hq => Or.inr (hsz ▸ hq)
  intro outSize out y1 y3 H locs ls h hP hD hS hl
  unfold f_X7_sayAtom_85 at h
  refine lv_iload_n hx hb dX7_sayAtom_85 rfl (lv_at hl 2 rfl) ?_
  refine lv_bipush (v := 8) hx hb dX7_sayAtom_86 (by decide) ?_
  refine lv_icmp_ge (tgt := 99) hx hb dX7_sayAtom_88 (by decide) (fun c88 => ?_) (fun c88 => ?_)
  · have h := o_t c88 h
    exact w_X7_sayAtom_99 CX hK hsz (hK4 := hK4) outSize out y1 y3 _ _ _ h hP hD hS (lv_sub hl [0, 1, 2] rfl)
  · have h := o_f c88 h
    refine lv_aload_n hx hb dX7_sayAtom_91 rfl (lv_at hl 0 rfl) ?_
    refine lv_bipush (v := 97) hx hb dX7_sayAtom_92 (by decide) ?_
    refine lv_iload_n hx hb dX7_sayAtom_94 rfl (lv_at hl 2 rfl) ?_
    refine lv_iadd hx hb dX7_sayAtom_95 ?_
    obtain ⟨z96, hz96, h⟩ := o_b h
    refine k_v (wn := (ws_X7_sayAtom cI cJ cB a0 a_kind a_right a_many a_bits a_table a_roots a_moved a_text a_above a_below a_row a_sum a_point a_pointRows a_pointSorts a_left a_rows a_out thrown used rooted size z96.1 points takenOut great at_ fault open_ wrong by_ sort variable_ pointCount left_ rows z96.2)) (As := [.int (97 + y3)]) (rest := []) F hNw hK hP hD hS hA (c_X7_say l D cI cJ cB a0 a_kind a_left a_right a_many a_bits a_rows a_table a_roots a_moved a_text a_above a_below a_row a_sum a_point a_pointRows a_pointSorts a_out _ thrown used rooted size outSize points takenOut great at_ fault open_ wrong by_ sort variable_ pointCount out (97 + y3) N hz96) wm_1367 cv_X7_say [0, 3] [1, 2] [2, 0, 1, 3] (⟨rfl, rfl, rfl, by decide, rfl⟩ : Ix [0, 3] [1, 2] [2, 0, 1, 3] 4) rfl (hN_of 2 4 (by decide +kernel) rfl (by decide +kernel) rfl) rfl rfl rfl rfl ⟨rfl, rfl, by decide, by decide⟩ hl.1 rfl (Nat.le_of_ble_eq_true rfl) ⟨Nat.zero_le _, Nat.zero_le _⟩ dX7_sayAtom_96 (fun H locs hP hD hS => ?_)
    exact w_X7_sayAtom_99 CX hK hsz (hK4 := hK4) z96.1 z96.2 y1 y3 _ _ _ h hP hD hS (lv_sub hl [0, 1, 2] rfl)
set_option maxHeartbeats 4000000 in
set_option maxRecDepth 100000 in
theorem w_X7_sayAtom_79 (CX : Cx p m c cX7_sayAtom 6 s args x0 RX7 meth none) (hK : va_K D vwCl (ty0 cI cJ cB) s) (hsz : s.heap.size = sz) {K4 : Int32 → (Nat → Int32) → (Nat → Int32) → (Nat → Int32) → Int32 → Int32 → Int32 → Option ((Int32) × (Nat → Int32))} (hK4 : ∀ (outSize : Int32) (out : Nat → Int32) (y1 : Int32) (y2 : Int32) (y3 : Int32) (H : Heap) (locs : List Loc) (ls : Array Slot), K4 outSize left_ rows out y1 y2 y3 = some z → va_P D vwCl (ws_X7_sayAtom cI cJ cB a0 a_kind a_right a_many a_bits a_table a_roots a_moved a_text a_above a_below a_row a_sum a_point a_pointRows a_pointSorts a_left a_rows a_out thrown used rooted size outSize points takenOut great at_ fault open_ wrong by_ sort variable_ pointCount left_ rows out) H → va_D (va_A ws0 sz) (ws_X7_sayAtom cI cJ cB a0 a_kind a_right a_many a_bits a_table a_roots a_moved a_text a_above a_below a_row a_sum a_point a_pointRows a_pointSorts a_left a_rows a_out thrown used rooted size outSize points takenOut great at_ fault open_ wrong by_ sort variable_ pointCount left_ rows out) → va_S (va_A ws0 sz) s.heap H locs → lv_has ls 6 [(0, .ref a0), (1, .int y1), (2, .int y2), (3, .int y3)] → W p l e rm_X7_sayAtom s m args below meth c H locs 0 0 (MQ below (gQ D sz ws0 (ws_X7_sayAtom cI cJ cB a0 a_kind a_right a_many a_bits a_table a_roots a_moved a_text a_above a_below a_row a_sum a_point a_pointRows a_pointSorts a_left a_rows a_out thrown used rooted size z.1 points takenOut great at_ fault open_ wrong by_ sort variable_ pointCount left_ rows z.2) none) args s 0 0 (va_A ws0 sz)) (F0 m 4 ls [])) : ∀ (outSize : Int32) (out : Nat → Int32) (y1 : Int32) (y3 : Int32) (y5 : Int32) (H : Heap) (locs : List Loc) (ls : Array Slot), f_X7_sayAtom_79 K4 N outSize left_ rows out y1 y3 y5 = some z → va_P D vwCl (ws_X7_sayAtom cI cJ cB a0 a_kind a_right a_many a_bits a_table a_roots a_moved a_text a_above a_below a_row a_sum a_point a_pointRows a_pointSorts a_left a_rows a_out thrown used rooted size outSize points takenOut great at_ fault open_ wrong by_ sort variable_ pointCount left_ rows out) H → va_D (va_A ws0 sz) (ws_X7_sayAtom cI cJ cB a0 a_kind a_right a_many a_bits a_table a_roots a_moved a_text a_above a_below a_row a_sum a_point a_pointRows a_pointSorts a_left a_rows a_out thrown used rooted size outSize points takenOut great at_ fault open_ wrong by_ sort variable_ pointCount left_ rows out) → va_S (va_A ws0 sz) s.heap H locs → lv_has ls 6 [(0, .ref a0), (1, .int y1), (3, .int y3), (5, .int y5)] → W p l e rm_X7_sayAtom s m args below meth c H locs 0 0 (MQ below (gQ D sz ws0 (ws_X7_sayAtom cI cJ cB a0 a_kind a_right a_many a_bits a_table a_roots a_moved a_text a_above a_below a_row a_sum a_point a_pointRows a_pointSorts a_left a_rows a_out thrown used rooted size z.1 points takenOut great at_ fault open_ wrong by_ sort variable_ pointCount left_ rows z.2) none) args s 0 0 (va_A ws0 sz)) (F0 m 79 ls []) := by
  obtain ⟨F, hr, hlk, hNw⟩ := id CX
  have hx := F.1
  have hb := F.2.1
  have hown := F.2.2.2.1
  have hA : ∀ q, s.heap.size ≤ q → va_A ws0 sz q := fun q hq => Or.inr (hsz ▸ hq)
  intro outSize out y1 y3 y5 H locs ls h hP hD hS hl
  unfold f_X7_sayAtom_79 at h
  refine lv_aload_n hx hb dX7_sayAtom_79 rfl (lv_at hl 0 rfl) ?_
  refine lv_iload hx hb dX7_sayAtom_80 (lv_at hl 3 rfl) ?_
  obtain ⟨z82, hz82, h⟩ := o_b h
  refine k_v (wn := (ws_X7_sayAtom cI cJ cB a0 a_kind a_right a_many a_bits a_table a_roots a_moved a_text a_above a_below a_row a_sum a_point a_pointRows a_pointSorts a_left a_rows a_out thrown used rooted size z82.1 points takenOut great at_ fault open_ wrong by_ sort variable_ pointCount left_ rows z82.2)) (As := [.int y5]) (rest := []) F hNw hK hP hD hS hA (c_X7_sayNumber l D cI cJ cB a0 a_kind a_left a_right a_many a_bits a_rows a_table a_roots a_moved a_text a_above a_below a_row a_sum a_point a_pointRows a_pointSorts a_out _ thrown used rooted size outSize points takenOut great at_ fault open_ wrong by_ sort variable_ pointCount out y5 N hz82) wm_1375 cv_X7_sayNumber [0, 3] [1, 2] [2, 0, 1, 3] (⟨rfl, rfl, rfl, by decide, rfl⟩ : Ix [0, 3] [1, 2] [2, 0, 1, 3] 4) rfl (hN_of 2 4 (by decide +kernel) rfl (by decide +kernel) rfl) rfl rfl rfl rfl ⟨rfl, rfl, by decide, by decide⟩ hl.1 rfl (Nat.le_of_ble_eq_true rfl) ⟨Nat.zero_le _, Nat.zero_le _⟩ dX7_sayAtom_82 (fun H locs hP hD hS => ?_)
  exact w_X7_sayAtom_85 CX hK hsz (hK4 := hK4) z82.1 z82.2 y1 y3 _ _ _ h hP hD hS (lv_sub hl [0, 1, 2] rfl)
set_option maxHeartbeats 4000000 in
set_option maxRecDepth 100000 in
theorem w_X7_sayAtom_65 (CX : Cx p m c cX7_sayAtom 6 s args x0 RX7 meth none) (hK : va_K D vwCl (ty0 cI cJ cB) s) (hsz : s.heap.size = sz) {K4 : Int32 → (Nat → Int32) → (Nat → Int32) → (Nat → Int32) → Int32 → Int32 → Int32 → Option ((Int32) × (Nat → Int32))} (hK4 : ∀ (outSize : Int32) (out : Nat → Int32) (y1 : Int32) (y2 : Int32) (y3 : Int32) (H : Heap) (locs : List Loc) (ls : Array Slot), K4 outSize left_ rows out y1 y2 y3 = some z → va_P D vwCl (ws_X7_sayAtom cI cJ cB a0 a_kind a_right a_many a_bits a_table a_roots a_moved a_text a_above a_below a_row a_sum a_point a_pointRows a_pointSorts a_left a_rows a_out thrown used rooted size outSize points takenOut great at_ fault open_ wrong by_ sort variable_ pointCount left_ rows out) H → va_D (va_A ws0 sz) (ws_X7_sayAtom cI cJ cB a0 a_kind a_right a_many a_bits a_table a_roots a_moved a_text a_above a_below a_row a_sum a_point a_pointRows a_pointSorts a_left a_rows a_out thrown used rooted size outSize points takenOut great at_ fault open_ wrong by_ sort variable_ pointCount left_ rows out) → va_S (va_A ws0 sz) s.heap H locs → lv_has ls 6 [(0, .ref a0), (1, .int y1), (2, .int y2), (3, .int y3)] → W p l e rm_X7_sayAtom s m args below meth c H locs 0 0 (MQ below (gQ D sz ws0 (ws_X7_sayAtom cI cJ cB a0 a_kind a_right a_many a_bits a_table a_roots a_moved a_text a_above a_below a_row a_sum a_point a_pointRows a_pointSorts a_left a_rows a_out thrown used rooted size z.1 points takenOut great at_ fault open_ wrong by_ sort variable_ pointCount left_ rows z.2) none) args s 0 0 (va_A ws0 sz)) (F0 m 4 ls [])) : ∀ (outSize : Int32) (out : Nat → Int32) (y1 : Int32) (y3 : Int32) (s0 : Int32) (H : Heap) (locs : List Loc) (ls : Array Slot), f_X7_sayAtom_65 K4 N outSize left_ rows out y1 y3 s0 = some z → va_P D vwCl (ws_X7_sayAtom cI cJ cB a0 a_kind a_right a_many a_bits a_table a_roots a_moved a_text a_above a_below a_row a_sum a_point a_pointRows a_pointSorts a_left a_rows a_out thrown used rooted size outSize points takenOut great at_ fault open_ wrong by_ sort variable_ pointCount left_ rows out) H → va_D (va_A ws0 sz) (ws_X7_sayAtom cI cJ cB a0 a_kind a_right a_many a_bits a_table a_roots a_moved a_text a_above a_below a_row a_sum a_point a_pointRows a_pointSorts a_left a_rows a_out thrown used rooted size outSize points takenOut great at_ fault open_ wrong by_ sort variable_ pointCount left_ rows out) → va_S (va_A ws0 sz) s.heap H locs → lv_has ls 6 [(0, .ref a0), (1, .int y1), (3, .int y3)] → W p l e rm_X7_sayAtom s m args below meth c H locs 0 0 (MQ below (gQ D sz ws0 (ws_X7_sayAtom cI cJ cB a0 a_kind a_right a_many a_bits a_table a_roots a_moved a_text a_above a_below a_row a_sum a_point a_pointRows a_pointSorts a_left a_rows a_out thrown used rooted size z.1 points takenOut great at_ fault open_ wrong by_ sort variable_ pointCount left_ rows z.2) none) args s 0 0 (va_A ws0 sz)) (F0 m 65 ls [.int s0]) := by
  obtain ⟨F, hr, hlk, hNw⟩ := id CX
  have hx := F.1
  have hb := F.2.1
  have hown := F.2.2.2.1
  have hA : ∀ q, s.heap.size ≤ q → va_A ws0 sz q := fun q hq => Or.inr (hsz ▸ hq)
  intro outSize out y1 y3 s0 H locs ls h hP hD hS hl
  unfold f_X7_sayAtom_65 at h
  refine lv_istore (lv' := [(5, .int s0), (0, .ref a0), (1, .int y1), (3, .int y3)]) hx hb dX7_sayAtom_65 hl (by decide) rfl (fun ls hl => ?_)
  refine lv_iload_n hx hb dX7_sayAtom_67 rfl (lv_at hl 3 rfl) ?_
  refine lv_bipush (v := 8) hx hb dX7_sayAtom_68 (by decide) ?_
  refine lv_icmp_eq (tgt := 79) hx hb dX7_sayAtom_70 (by decide) (fun c70 => ?_) (fun c70 => ?_)
  · have h := o_t c70 h
    exact w_X7_sayAtom_79 CX hK hsz (hK4 := hK4) outSize out y1 y3 s0 _ _ _ h hP hD hS (lv_sub hl [1, 2, 3, 0] rfl)
  · have h := o_f c70 h
    refine lv_iload hx hb dX7_sayAtom_73 (lv_at hl 0 rfl) ?_
    refine lv_iconst (v := 1) hx hb dX7_sayAtom_75 (by decide) ?_
    refine lv_icmp_le (tgt := 85) hx hb dX7_sayAtom_76 (by decide) (fun c76 => ?_) (fun c76 => ?_)
    · have h := o_t c76 h
      exact w_X7_sayAtom_85 CX hK hsz (hK4 := hK4) outSize out y1 y3 _ _ _ h hP hD hS (lv_sub hl [1, 2, 3] rfl)
    · have h := o_f c76 h
      exact w_X7_sayAtom_79 CX hK hsz (hK4 := hK4) outSize out y1 y3 s0 _ _ _ h hP hD hS (lv_sub hl [1, 2, 3, 0] rfl)
set_option maxHeartbeats 4000000 in
set_option maxRecDepth 100000 in
theorem w_X7_sayAtom_52 (CX : Cx p m c cX7_sayAtom 6 s args x0 RX7 meth none) (hK : va_K D vwCl (ty0 cI cJ cB) s) (hsz : s.heap.size = sz) {K4 : Int32 → (Nat → Int32) → (Nat → Int32) → (Nat → Int32) → Int32 → Int32 → Int32 → Option ((Int32) × (Nat → Int32))} (hK4 : ∀ (outSize : Int32) (out : Nat → Int32) (y1 : Int32) (y2 : Int32) (y3 : Int32) (H : Heap) (locs : List Loc) (ls : Array Slot), K4 outSize left_ rows out y1 y2 y3 = some z → va_P D vwCl (ws_X7_sayAtom cI cJ cB a0 a_kind a_right a_many a_bits a_table a_roots a_moved a_text a_above a_below a_row a_sum a_point a_pointRows a_pointSorts a_left a_rows a_out thrown used rooted size outSize points takenOut great at_ fault open_ wrong by_ sort variable_ pointCount left_ rows out) H → va_D (va_A ws0 sz) (ws_X7_sayAtom cI cJ cB a0 a_kind a_right a_many a_bits a_table a_roots a_moved a_text a_above a_below a_row a_sum a_point a_pointRows a_pointSorts a_left a_rows a_out thrown used rooted size outSize points takenOut great at_ fault open_ wrong by_ sort variable_ pointCount left_ rows out) → va_S (va_A ws0 sz) s.heap H locs → lv_has ls 6 [(0, .ref a0), (1, .int y1), (2, .int y2), (3, .int y3)] → W p l e rm_X7_sayAtom s m args below meth c H locs 0 0 (MQ below (gQ D sz ws0 (ws_X7_sayAtom cI cJ cB a0 a_kind a_right a_many a_bits a_table a_roots a_moved a_text a_above a_below a_row a_sum a_point a_pointRows a_pointSorts a_left a_rows a_out thrown used rooted size z.1 points takenOut great at_ fault open_ wrong by_ sort variable_ pointCount left_ rows z.2) none) args s 0 0 (va_A ws0 sz)) (F0 m 4 ls [])) : ∀ (outSize : Int32) (out : Nat → Int32) (y1 : Int32) (y3 : Int32) (y4 : Int32) (H : Heap) (locs : List Loc) (ls : Array Slot), f_X7_sayAtom_52 K4 N outSize left_ rows out y1 y3 y4 = some z → va_P D vwCl (ws_X7_sayAtom cI cJ cB a0 a_kind a_right a_many a_bits a_table a_roots a_moved a_text a_above a_below a_row a_sum a_point a_pointRows a_pointSorts a_left a_rows a_out thrown used rooted size outSize points takenOut great at_ fault open_ wrong by_ sort variable_ pointCount left_ rows out) H → va_D (va_A ws0 sz) (ws_X7_sayAtom cI cJ cB a0 a_kind a_right a_many a_bits a_table a_roots a_moved a_text a_above a_below a_row a_sum a_point a_pointRows a_pointSorts a_left a_rows a_out thrown used rooted size outSize points takenOut great at_ fault open_ wrong by_ sort variable_ pointCount left_ rows out) → va_S (va_A ws0 sz) s.heap H locs → lv_has ls 6 [(0, .ref a0), (1, .int y1), (3, .int y3), (4, .int y4)] → W p l e rm_X7_sayAtom s m args below meth c H locs 0 0 (MQ below (gQ D sz ws0 (ws_X7_sayAtom cI cJ cB a0 a_kind a_right a_many a_bits a_table a_roots a_moved a_text a_above a_below a_row a_sum a_point a_pointRows a_pointSorts a_left a_rows a_out thrown used rooted size z.1 points takenOut great at_ fault open_ wrong by_ sort variable_ pointCount left_ rows z.2) none) args s 0 0 (va_A ws0 sz)) (F0 m 52 ls []) := by
  obtain ⟨F, hr, hlk, hNw⟩ := id CX
  have hx := F.1
  have hb := F.2.1
  have hown := F.2.2.2.1
  have hA : ∀ q, s.heap.size ≤ q → va_A ws0 sz q := fun q hq => Or.inr (hsz ▸ hq)
  intro outSize out y1 y3 y4 H locs ls h hP hD hS hl
  unfold f_X7_sayAtom_52 at h
  refine lv_iload hx hb dX7_sayAtom_52 (lv_at hl 3 rfl) ?_
  refine lv_if_ge (tgt := 63) hx hb dX7_sayAtom_54 (by decide) (fun c54 => ?_) (fun c54 => ?_)
  · have h := o_t c54 h
    refine lv_iload hx hb dX7_sayAtom_63 (lv_at hl 3 rfl) ?_
    exact w_X7_sayAtom_65 CX hK hsz (hK4 := hK4) outSize out y1 y3 y4 _ _ _ h hP hD hS (lv_sub hl [0, 1, 2] rfl)
  · have h := o_f c54 h
    refine lv_iload hx hb dX7_sayAtom_57 (lv_at hl 3 rfl) ?_
    refine lv_ineg hx hb dX7_sayAtom_59 ?_
    refine lv_goto (tgt := 65) hx hb dX7_sayAtom_60 (by decide) ?_
    exact w_X7_sayAtom_65 CX hK hsz (hK4 := hK4) outSize out y1 y3 (-y4) _ _ _ h hP hD hS (lv_sub hl [0, 1, 2] rfl)
set_option maxHeartbeats 4000000 in
set_option maxRecDepth 100000 in
theorem w_X7_sayAtom_147 (CX : Cx p m c cX7_sayAtom 6 s args x0 RX7 meth none) (hK : va_K D vwCl (ty0 cI cJ cB) s) (hsz : s.heap.size = sz) : ∀ (outSize : Int32) (out : Nat → Int32) (H : Heap) (locs : List Loc) (ls : Array Slot), f_X7_sayAtom_147 N outSize left_ rows out = some z → va_P D vwCl (ws_X7_sayAtom cI cJ cB a0 a_kind a_right a_many a_bits a_table a_roots a_moved a_text a_above a_below a_row a_sum a_point a_pointRows a_pointSorts a_left a_rows a_out thrown used rooted size outSize points takenOut great at_ fault open_ wrong by_ sort variable_ pointCount left_ rows out) H → va_D (va_A ws0 sz) (ws_X7_sayAtom cI cJ cB a0 a_kind a_right a_many a_bits a_table a_roots a_moved a_text a_above a_below a_row a_sum a_point a_pointRows a_pointSorts a_left a_rows a_out thrown used rooted size outSize points takenOut great at_ fault open_ wrong by_ sort variable_ pointCount left_ rows out) → va_S (va_A ws0 sz) s.heap H locs → lv_has ls 6 [(0, .ref a0)] → W p l e rm_X7_sayAtom s m args below meth c H locs 0 0 (MQ below (gQ D sz ws0 (ws_X7_sayAtom cI cJ cB a0 a_kind a_right a_many a_bits a_table a_roots a_moved a_text a_above a_below a_row a_sum a_point a_pointRows a_pointSorts a_left a_rows a_out thrown used rooted size z.1 points takenOut great at_ fault open_ wrong by_ sort variable_ pointCount left_ rows z.2) none) args s 0 0 (va_A ws0 sz)) (F0 m 147 ls []) := by
  obtain ⟨F, hr, hlk, hNw⟩ := id CX
  have hx := F.1
  have hb := F.2.1
  have hown := F.2.2.2.1
  have hA : ∀ q, s.heap.size ≤ q → va_A ws0 sz q := fun q hq => Or.inr (hsz ▸ hq)
  intro outSize out H locs ls h hP hD hS hl
  unfold f_X7_sayAtom_147 at h
  refine lv_aload_n hx hb dX7_sayAtom_147 rfl (lv_at hl 0 rfl) ?_
  refine lv_bipush (v := 48) hx hb dX7_sayAtom_148 (by decide) ?_
  obtain ⟨z150, hz150, h⟩ := o_b h
  refine k_v (wn := (ws_X7_sayAtom cI cJ cB a0 a_kind a_right a_many a_bits a_table a_roots a_moved a_text a_above a_below a_row a_sum a_point a_pointRows a_pointSorts a_left a_rows a_out thrown used rooted size z150.1 points takenOut great at_ fault open_ wrong by_ sort variable_ pointCount left_ rows z150.2)) (As := [.int 48]) (rest := []) F hNw hK hP hD hS hA (c_X7_say l D cI cJ cB a0 a_kind a_left a_right a_many a_bits a_rows a_table a_roots a_moved a_text a_above a_below a_row a_sum a_point a_pointRows a_pointSorts a_out _ thrown used rooted size outSize points takenOut great at_ fault open_ wrong by_ sort variable_ pointCount out 48 N hz150) wm_1367 cv_X7_say [0, 3] [1, 2] [2, 0, 1, 3] (⟨rfl, rfl, rfl, by decide, rfl⟩ : Ix [0, 3] [1, 2] [2, 0, 1, 3] 4) rfl (hN_of 2 4 (by decide +kernel) rfl (by decide +kernel) rfl) rfl rfl rfl rfl ⟨rfl, rfl, by decide, by decide⟩ hl.1 rfl (Nat.le_of_ble_eq_true rfl) ⟨Nat.zero_le _, Nat.zero_le _⟩ dX7_sayAtom_150 (fun H locs hP hD hS => ?_)
  obtain rfl := Option.some.inj h
  exact r_vret F hr hlk dX7_sayAtom_153 hsz hP hD hS
set_option maxHeartbeats 4000000 in
set_option maxRecDepth 100000 in
theorem w_X7_sayAtom_136 (CX : Cx p m c cX7_sayAtom 6 s args x0 RX7 meth none) (hK : va_K D vwCl (ty0 cI cJ cB) s) (hsz : s.heap.size = sz) : ∀ (outSize : Int32) (out : Nat → Int32) (y3 : Int32) (H : Heap) (locs : List Loc) (ls : Array Slot), f_X7_sayAtom_136 N outSize left_ rows out y3 = some z → va_P D vwCl (ws_X7_sayAtom cI cJ cB a0 a_kind a_right a_many a_bits a_table a_roots a_moved a_text a_above a_below a_row a_sum a_point a_pointRows a_pointSorts a_left a_rows a_out thrown used rooted size outSize points takenOut great at_ fault open_ wrong by_ sort variable_ pointCount left_ rows out) H → va_D (va_A ws0 sz) (ws_X7_sayAtom cI cJ cB a0 a_kind a_right a_many a_bits a_table a_roots a_moved a_text a_above a_below a_row a_sum a_point a_pointRows a_pointSorts a_left a_rows a_out thrown used rooted size outSize points takenOut great at_ fault open_ wrong by_ sort variable_ pointCount left_ rows out) → va_S (va_A ws0 sz) s.heap H locs → lv_has ls 6 [(0, .ref a0), (3, .int y3)] → W p l e rm_X7_sayAtom s m args below meth c H locs 0 0 (MQ below (gQ D sz ws0 (ws_X7_sayAtom cI cJ cB a0 a_kind a_right a_many a_bits a_table a_roots a_moved a_text a_above a_below a_row a_sum a_point a_pointRows a_pointSorts a_left a_rows a_out thrown used rooted size z.1 points takenOut great at_ fault open_ wrong by_ sort variable_ pointCount left_ rows z.2) none) args s 0 0 (va_A ws0 sz)) (F0 m 136 ls []) := by
  obtain ⟨F, hr, hlk, hNw⟩ := id CX
  have hx := F.1
  have hb := F.2.1
  have hown := F.2.2.2.1
  have hA : ∀ q, s.heap.size ≤ q → va_A ws0 sz q := fun q hq => Or.inr (hsz ▸ hq)
  intro outSize out y3 H locs ls h hP hD hS hl
  unfold f_X7_sayAtom_136 at h
  refine lv_iload_n hx hb dX7_sayAtom_136 rfl (lv_at hl 1 rfl) ?_
  refine lv_iconst (v := 2) hx hb dX7_sayAtom_137 (by decide) ?_
  refine lv_icmp_eq (tgt := 147) hx hb dX7_sayAtom_138 (by decide) (fun c138 => ?_) (fun c138 => ?_)
  · have h := o_t c138 h
    exact w_X7_sayAtom_147 CX hK hsz outSize out _ _ _ h hP hD hS (lv_sub hl [0] rfl)
  · have h := o_f c138 h
    refine lv_aload_n hx hb dX7_sayAtom_141 rfl (lv_at hl 0 rfl) ?_
    refine lv_bipush (v := 61) hx hb dX7_sayAtom_142 (by decide) ?_
    obtain ⟨z144, hz144, h⟩ := o_b h
    refine k_v (wn := (ws_X7_sayAtom cI cJ cB a0 a_kind a_right a_many a_bits a_table a_roots a_moved a_text a_above a_below a_row a_sum a_point a_pointRows a_pointSorts a_left a_rows a_out thrown used rooted size z144.1 points takenOut great at_ fault open_ wrong by_ sort variable_ pointCount left_ rows z144.2)) (As := [.int 61]) (rest := []) F hNw hK hP hD hS hA (c_X7_say l D cI cJ cB a0 a_kind a_left a_right a_many a_bits a_rows a_table a_roots a_moved a_text a_above a_below a_row a_sum a_point a_pointRows a_pointSorts a_out _ thrown used rooted size outSize points takenOut great at_ fault open_ wrong by_ sort variable_ pointCount out 61 N hz144) wm_1367 cv_X7_say [0, 3] [1, 2] [2, 0, 1, 3] (⟨rfl, rfl, rfl, by decide, rfl⟩ : Ix [0, 3] [1, 2] [2, 0, 1, 3] 4) rfl (hN_of 2 4 (by decide +kernel) rfl (by decide +kernel) rfl) rfl rfl rfl rfl ⟨rfl, rfl, by decide, by decide⟩ hl.1 rfl (Nat.le_of_ble_eq_true rfl) ⟨Nat.zero_le _, Nat.zero_le _⟩ dX7_sayAtom_144 (fun H locs hP hD hS => ?_)
    exact w_X7_sayAtom_147 CX hK hsz z144.1 z144.2 _ _ _ h hP hD hS (lv_sub hl [0] rfl)
set_option maxHeartbeats 4000000 in
set_option maxRecDepth 100000 in
theorem w_X7_sayAtom_125 (CX : Cx p m c cX7_sayAtom 6 s args x0 RX7 meth none) (hK : va_K D vwCl (ty0 cI cJ cB) s) (hsz : s.heap.size = sz) : ∀ (outSize : Int32) (out : Nat → Int32) (y3 : Int32) (H : Heap) (locs : List Loc) (ls : Array Slot), f_X7_sayAtom_125 N outSize left_ rows out y3 = some z → va_P D vwCl (ws_X7_sayAtom cI cJ cB a0 a_kind a_right a_many a_bits a_table a_roots a_moved a_text a_above a_below a_row a_sum a_point a_pointRows a_pointSorts a_left a_rows a_out thrown used rooted size outSize points takenOut great at_ fault open_ wrong by_ sort variable_ pointCount left_ rows out) H → va_D (va_A ws0 sz) (ws_X7_sayAtom cI cJ cB a0 a_kind a_right a_many a_bits a_table a_roots a_moved a_text a_above a_below a_row a_sum a_point a_pointRows a_pointSorts a_left a_rows a_out thrown used rooted size outSize points takenOut great at_ fault open_ wrong by_ sort variable_ pointCount left_ rows out) → va_S (va_A ws0 sz) s.heap H locs → lv_has ls 6 [(0, .ref a0), (3, .int y3)] → W p l e rm_X7_sayAtom s m args below meth c H locs 0 0 (MQ below (gQ D sz ws0 (ws_X7_sayAtom cI cJ cB a0 a_kind a_right a_many a_bits a_table a_roots a_moved a_text a_above a_below a_row a_sum a_point a_pointRows a_pointSorts a_left a_rows a_out thrown used rooted size z.1 points takenOut great at_ fault open_ wrong by_ sort variable_ pointCount left_ rows z.2) none) args s 0 0 (va_A ws0 sz)) (F0 m 125 ls []) := by
  obtain ⟨F, hr, hlk, hNw⟩ := id CX
  have hx := F.1
  have hb := F.2.1
  have hown := F.2.2.2.1
  have hA : ∀ q, s.heap.size ≤ q → va_A ws0 sz q := fun q hq => Or.inr (hsz ▸ hq)
  intro outSize out y3 H locs ls h hP hD hS hl
  unfold f_X7_sayAtom_125 at h
  refine lv_iload_n hx hb dX7_sayAtom_125 rfl (lv_at hl 1 rfl) ?_
  refine lv_iconst (v := 2) hx hb dX7_sayAtom_126 (by decide) ?_
  refine lv_icmp_lt (tgt := 136) hx hb dX7_sayAtom_127 (by decide) (fun c127 => ?_) (fun c127 => ?_)
  · have h := o_t c127 h
    exact w_X7_sayAtom_136 CX hK hsz outSize out y3 _ _ _ h hP hD hS (lv_sub hl [0, 1] rfl)
  · have h := o_f c127 h
    refine lv_aload_n hx hb dX7_sayAtom_130 rfl (lv_at hl 0 rfl) ?_
    refine lv_bipush (v := 60) hx hb dX7_sayAtom_131 (by decide) ?_
    obtain ⟨z133, hz133, h⟩ := o_b h
    refine k_v (wn := (ws_X7_sayAtom cI cJ cB a0 a_kind a_right a_many a_bits a_table a_roots a_moved a_text a_above a_below a_row a_sum a_point a_pointRows a_pointSorts a_left a_rows a_out thrown used rooted size z133.1 points takenOut great at_ fault open_ wrong by_ sort variable_ pointCount left_ rows z133.2)) (As := [.int 60]) (rest := []) F hNw hK hP hD hS hA (c_X7_say l D cI cJ cB a0 a_kind a_left a_right a_many a_bits a_rows a_table a_roots a_moved a_text a_above a_below a_row a_sum a_point a_pointRows a_pointSorts a_out _ thrown used rooted size outSize points takenOut great at_ fault open_ wrong by_ sort variable_ pointCount out 60 N hz133) wm_1367 cv_X7_say [0, 3] [1, 2] [2, 0, 1, 3] (⟨rfl, rfl, rfl, by decide, rfl⟩ : Ix [0, 3] [1, 2] [2, 0, 1, 3] 4) rfl (hN_of 2 4 (by decide +kernel) rfl (by decide +kernel) rfl) rfl rfl rfl rfl ⟨rfl, rfl, by decide, by decide⟩ hl.1 rfl (Nat.le_of_ble_eq_true rfl) ⟨Nat.zero_le _, Nat.zero_le _⟩ dX7_sayAtom_133 (fun H locs hP hD hS => ?_)
    exact w_X7_sayAtom_136 CX hK hsz z133.1 z133.2 y3 _ _ _ h hP hD hS (lv_sub hl [0, 1] rfl)
set_option maxHeartbeats 4000000 in
set_option maxRecDepth 100000 in
theorem w_X7_sayAtom_4 (CX : Cx p m c cX7_sayAtom 6 s args x0 RX7 meth none) (hK : va_K D vwCl (ty0 cI cJ cB) s) (hsz : s.heap.size = sz) : ∀ (n : Nat), ∀ (outSize : Int32) (out : Nat → Int32) (y1 : Int32) (y2 : Int32) (y3 : Int32) (H : Heap) (locs : List Loc) (ls : Array Slot), f_X7_sayAtom_4 N n outSize left_ rows out y1 y2 y3 = some z → va_P D vwCl (ws_X7_sayAtom cI cJ cB a0 a_kind a_right a_many a_bits a_table a_roots a_moved a_text a_above a_below a_row a_sum a_point a_pointRows a_pointSorts a_left a_rows a_out thrown used rooted size outSize points takenOut great at_ fault open_ wrong by_ sort variable_ pointCount left_ rows out) H → va_D (va_A ws0 sz) (ws_X7_sayAtom cI cJ cB a0 a_kind a_right a_many a_bits a_table a_roots a_moved a_text a_above a_below a_row a_sum a_point a_pointRows a_pointSorts a_left a_rows a_out thrown used rooted size outSize points takenOut great at_ fault open_ wrong by_ sort variable_ pointCount left_ rows out) → va_S (va_A ws0 sz) s.heap H locs → lv_has ls 6 [(0, .ref a0), (1, .int y1), (2, .int y2), (3, .int y3)] → W p l e rm_X7_sayAtom s m args below meth c H locs 0 0 (MQ below (gQ D sz ws0 (ws_X7_sayAtom cI cJ cB a0 a_kind a_right a_many a_bits a_table a_roots a_moved a_text a_above a_below a_row a_sum a_point a_pointRows a_pointSorts a_left a_rows a_out thrown used rooted size z.1 points takenOut great at_ fault open_ wrong by_ sort variable_ pointCount left_ rows z.2) none) args s 0 0 (va_A ws0 sz)) (F0 m 4 ls []) := by
  obtain ⟨F, hr, hlk, hNw⟩ := id CX
  have hx := F.1
  have hb := F.2.1
  have hown := F.2.2.2.1
  have hA : ∀ q, s.heap.size ≤ q → va_A ws0 sz q := fun q hq => Or.inr (hsz ▸ hq)
  intro n
  induction n with
  | zero =>
    intro outSize out y1 y2 y3 H locs ls h
    cases h
  | succ n ih =>
    intro outSize out y1 y2 y3 H locs ls h hP hD hS hl
    unfold f_X7_sayAtom_4 at h
    refine lv_iload_n hx hb dX7_sayAtom_4 rfl (lv_at hl 3 rfl) ?_
    refine lv_bipush (v := 9) hx hb dX7_sayAtom_5 (by decide) ?_
    refine lv_icmp_ge (tgt := 107) hx hb dX7_sayAtom_7 (by decide) (fun c7 => ?_) (fun c7 => ?_)
    · have h := o_t c7 h
      refine lv_aload_n hx hb dX7_sayAtom_107 rfl (lv_at hl 0 rfl) ?_
      refine r_get F hK hP 0 2 rfl inW_X7 wm_1094 rfl (by decide) rfl dX7_sayAtom_108 ?_
      refine lv_iload_n hx hb dX7_sayAtom_111 rfl (lv_at hl 1 rfl) ?_
      obtain ⟨hi112, h⟩ := o_ix h
      refine va_iald hx hb hK hP 1 0 rfl rfl hi112 dX7_sayAtom_112 ?_
      refine lv_istore_n (lv' := [(3, .int (left_ y1.toNatClampNeg)), (0, .ref a0), (1, .int y1), (2, .int y2)]) hx hb dX7_sayAtom_113 rfl hl (by decide) rfl (fun ls hl => ?_)
      refine lv_iload_n hx hb dX7_sayAtom_114 rfl (lv_at hl 0 rfl) ?_
      refine lv_iconst (v := 1) hx hb dX7_sayAtom_115 (by decide) ?_
      refine lv_icmp_ne (tgt := 125) hx hb dX7_sayAtom_116 (by decide) (fun c116 => ?_) (fun c116 => ?_)
      · have h := o_f c116 h
        exact w_X7_sayAtom_125 CX hK hsz outSize out (left_ y1.toNatClampNeg) _ _ _ h hP hD hS (lv_sub hl [1, 0] rfl)
      · have h := o_t c116 h
        refine lv_aload_n hx hb dX7_sayAtom_119 rfl (lv_at hl 1 rfl) ?_
        refine lv_bipush (v := 33) hx hb dX7_sayAtom_120 (by decide) ?_
        obtain ⟨z122, hz122, h⟩ := o_b h
        refine k_v (wn := (ws_X7_sayAtom cI cJ cB a0 a_kind a_right a_many a_bits a_table a_roots a_moved a_text a_above a_below a_row a_sum a_point a_pointRows a_pointSorts a_left a_rows a_out thrown used rooted size z122.1 points takenOut great at_ fault open_ wrong by_ sort variable_ pointCount left_ rows z122.2)) (As := [.int 33]) (rest := []) F hNw hK hP hD hS hA (c_X7_say l D cI cJ cB a0 a_kind a_left a_right a_many a_bits a_rows a_table a_roots a_moved a_text a_above a_below a_row a_sum a_point a_pointRows a_pointSorts a_out _ thrown used rooted size outSize points takenOut great at_ fault open_ wrong by_ sort variable_ pointCount out 33 N hz122) wm_1367 cv_X7_say [0, 3] [1, 2] [2, 0, 1, 3] (⟨rfl, rfl, rfl, by decide, rfl⟩ : Ix [0, 3] [1, 2] [2, 0, 1, 3] 4) rfl (hN_of 2 4 (by decide +kernel) rfl (by decide +kernel) rfl) rfl rfl rfl rfl ⟨rfl, rfl, by decide, by decide⟩ hl.1 rfl (Nat.le_of_ble_eq_true rfl) ⟨Nat.zero_le _, Nat.zero_le _⟩ dX7_sayAtom_122 (fun H locs hP hD hS => ?_)
        exact w_X7_sayAtom_125 CX hK hsz z122.1 z122.2 (left_ y1.toNatClampNeg) _ _ _ h hP hD hS (lv_sub hl [1, 0] rfl)
    · have h := o_f c7 h
      refine lv_aload_n hx hb dX7_sayAtom_10 rfl (lv_at hl 0 rfl) ?_
      refine r_get F hK hP 0 6 rfl inW_X7 wm_1098 rfl (by decide) rfl dX7_sayAtom_11 ?_
      refine lv_bipush (v := 9) hx hb dX7_sayAtom_14 (by decide) ?_
      refine lv_iload_n hx hb dX7_sayAtom_16 rfl (lv_at hl 1 rfl) ?_
      refine lv_imul hx hb dX7_sayAtom_17 ?_
      refine lv_iload_n hx hb dX7_sayAtom_18 rfl (lv_at hl 3 rfl) ?_
      refine lv_iadd hx hb dX7_sayAtom_19 ?_
      obtain ⟨hi20, h⟩ := o_ix h
      refine va_iald hx hb hK hP 2 0 rfl rfl hi20 dX7_sayAtom_20 ?_
      refine lv_istore (lv' := [(4, .int (rows ((9 * y1) + y3).toNatClampNeg)), (0, .ref a0), (1, .int y1), (2, .int y2), (3, .int y3)]) hx hb dX7_sayAtom_21 hl (by decide) rfl (fun ls hl => ?_)
      refine lv_iload hx hb dX7_sayAtom_23 (lv_at hl 0 rfl) ?_
      refine lv_if_eq (tgt := 101) hx hb dX7_sayAtom_25 (by decide) (fun c25 => ?_) (fun c25 => ?_)
      · have h := o_t c25 h
        exact w_X7_sayAtom_101 CX hK hsz (hK4 := ih) outSize out y1 y2 y3 _ _ _ h hP hD hS (lv_sub hl [1, 2, 3, 4] rfl)
      · have h := o_f c25 h
        refine lv_iload hx hb dX7_sayAtom_28 (lv_at hl 0 rfl) ?_
        refine lv_if_ge (tgt := 42) hx hb dX7_sayAtom_30 (by decide) (fun c30 => ?_) (fun c30 => ?_)
        · have h := o_t c30 h
          refine lv_iload_n hx hb dX7_sayAtom_42 rfl (lv_at hl 3 rfl) ?_
          refine lv_if_ne (tgt := 52) hx hb dX7_sayAtom_43 (by decide) (fun c43 => ?_) (fun c43 => ?_)
          · have h := o_f c43 h
            exact w_X7_sayAtom_52 CX hK hsz (hK4 := ih) outSize out y1 y3 (rows ((9 * y1) + y3).toNatClampNeg) _ _ _ h hP hD hS (lv_sub hl [1, 2, 4, 0] rfl)
          · have h := o_t c43 h
            refine lv_aload_n hx hb dX7_sayAtom_46 rfl (lv_at hl 1 rfl) ?_
            refine lv_bipush (v := 43) hx hb dX7_sayAtom_47 (by decide) ?_
            obtain ⟨z49, hz49, h⟩ := o_b h
            refine k_v (wn := (ws_X7_sayAtom cI cJ cB a0 a_kind a_right a_many a_bits a_table a_roots a_moved a_text a_above a_below a_row a_sum a_point a_pointRows a_pointSorts a_left a_rows a_out thrown used rooted size z49.1 points takenOut great at_ fault open_ wrong by_ sort variable_ pointCount left_ rows z49.2)) (As := [.int 43]) (rest := []) F hNw hK hP hD hS hA (c_X7_say l D cI cJ cB a0 a_kind a_left a_right a_many a_bits a_rows a_table a_roots a_moved a_text a_above a_below a_row a_sum a_point a_pointRows a_pointSorts a_out _ thrown used rooted size outSize points takenOut great at_ fault open_ wrong by_ sort variable_ pointCount out 43 N hz49) wm_1367 cv_X7_say [0, 3] [1, 2] [2, 0, 1, 3] (⟨rfl, rfl, rfl, by decide, rfl⟩ : Ix [0, 3] [1, 2] [2, 0, 1, 3] 4) rfl (hN_of 2 4 (by decide +kernel) rfl (by decide +kernel) rfl) rfl rfl rfl rfl ⟨rfl, rfl, by decide, by decide⟩ hl.1 rfl (Nat.le_of_ble_eq_true rfl) ⟨Nat.zero_le _, Nat.zero_le _⟩ dX7_sayAtom_49 (fun H locs hP hD hS => ?_)
            exact w_X7_sayAtom_52 CX hK hsz (hK4 := ih) z49.1 z49.2 y1 y3 (rows ((9 * y1) + y3).toNatClampNeg) _ _ _ h hP hD hS (lv_sub hl [1, 2, 4, 0] rfl)
        · have h := o_f c30 h
          refine lv_aload_n hx hb dX7_sayAtom_33 rfl (lv_at hl 1 rfl) ?_
          refine lv_bipush (v := 45) hx hb dX7_sayAtom_34 (by decide) ?_
          obtain ⟨z36, hz36, h⟩ := o_b h
          refine k_v (wn := (ws_X7_sayAtom cI cJ cB a0 a_kind a_right a_many a_bits a_table a_roots a_moved a_text a_above a_below a_row a_sum a_point a_pointRows a_pointSorts a_left a_rows a_out thrown used rooted size z36.1 points takenOut great at_ fault open_ wrong by_ sort variable_ pointCount left_ rows z36.2)) (As := [.int 45]) (rest := []) F hNw hK hP hD hS hA (c_X7_say l D cI cJ cB a0 a_kind a_left a_right a_many a_bits a_rows a_table a_roots a_moved a_text a_above a_below a_row a_sum a_point a_pointRows a_pointSorts a_out _ thrown used rooted size outSize points takenOut great at_ fault open_ wrong by_ sort variable_ pointCount out 45 N hz36) wm_1367 cv_X7_say [0, 3] [1, 2] [2, 0, 1, 3] (⟨rfl, rfl, rfl, by decide, rfl⟩ : Ix [0, 3] [1, 2] [2, 0, 1, 3] 4) rfl (hN_of 2 4 (by decide +kernel) rfl (by decide +kernel) rfl) rfl rfl rfl rfl ⟨rfl, rfl, by decide, by decide⟩ hl.1 rfl (Nat.le_of_ble_eq_true rfl) ⟨Nat.zero_le _, Nat.zero_le _⟩ dX7_sayAtom_36 (fun H locs hP hD hS => ?_)
          refine lv_goto (tgt := 52) hx hb dX7_sayAtom_39 (by decide) ?_
          exact w_X7_sayAtom_52 CX hK hsz (hK4 := ih) z36.1 z36.2 y1 y3 (rows ((9 * y1) + y3).toNatClampNeg) _ _ _ h hP hD hS (lv_sub hl [1, 2, 4, 0] rfl)
end G_X7_sayAtom
set_option maxHeartbeats 4000000 in
set_option maxRecDepth 100000 in
theorem c_X7_sayAtom (l : Launch) (D : va_G) (cI cJ cB : ClassId) (a0 a_kind a_right a_many a_bits a_table a_roots a_moved a_text a_above a_below a_row a_sum a_point a_pointRows a_pointSorts a_left a_rows a_out : Nat) (sz : Nat) (thrown : Int32) (used : Int32) (rooted : Int32) (size : Int32) (outSize : Int32) (points : Int32) (takenOut : Int32) (great : Int32) (at_ : Int32) (fault : Int32) (open_ : Int32) (wrong : Int32) (by_ : Int64) (sort : Int32) (variable_ : Int32) (pointCount : Int32) (left_ : Nat → Int32) (rows : Nat → Int32) (out : Nat → Int32) (x1 : Int32) (N : Nat) {z : (Int32) × (Nat → Int32)} (h : f_X7_sayAtom N outSize left_ rows out x1 = some z) : Mg l yX7_sayAtom cX7_sayAtom 6 none rm_X7_sayAtom D (ty0 cI cJ cB) [.ref a0, .int x1] sz (ws_X7_sayAtom cI cJ cB a0 a_kind a_right a_many a_bits a_table a_roots a_moved a_text a_above a_below a_row a_sum a_point a_pointRows a_pointSorts a_left a_rows a_out thrown used rooted size outSize points takenOut great at_ fault open_ wrong by_ sort variable_ pointCount left_ rows out) none (ws_X7_sayAtom cI cJ cB a0 a_kind a_right a_many a_bits a_table a_roots a_moved a_text a_above a_below a_row a_sum a_point a_pointRows a_pointSorts a_left a_rows a_out thrown used rooted size z.1 points takenOut great at_ fault open_ wrong by_ sort variable_ pointCount left_ rows z.2) := by
  refine Mg.of (by decide) (Nat.le_of_ble_eq_true rfl) ?_
  intro p e s m below meth c CX hK hsz hP hD ls hl
  have CX : Cx p m c cX7_sayAtom 6 s ([.ref a0, .int x1] : List Value).toArray (Cond.code yX7_sayAtom cX7_sayAtom 6 none) RX7 meth none := CX
  obtain ⟨F, hr, hlk, hNw⟩ := id CX
  have hx := F.1
  have hb := F.2.1
  have hown := F.2.2.2.1
  have hl : lv_has ls 6 [(0, .ref a0), (1, .int x1)] := hl
  have hS : va_S (va_A (ws_X7_sayAtom cI cJ cB a0 a_kind a_right a_many a_bits a_table a_roots a_moved a_text a_above a_below a_row a_sum a_point a_pointRows a_pointSorts a_left a_rows a_out thrown used rooted size outSize points takenOut great at_ fault open_ wrong by_ sort variable_ pointCount left_ rows out) sz) s.heap s.heap [] := va_S.rf
  have hA : ∀ q, s.heap.size ≤ q → va_A (ws_X7_sayAtom cI cJ cB a0 a_kind a_right a_many a_bits a_table a_roots a_moved a_text a_above a_below a_row a_sum a_point a_pointRows a_pointSorts a_left a_rows a_out thrown used rooted size outSize points takenOut great at_ fault open_ wrong by_ sort variable_ pointCount left_ rows out) sz q := fun q hq => Or.inr (hsz ▸ hq)
  unfold f_X7_sayAtom at h
  refine lv_iconst (v := 1) hx hb dX7_sayAtom_0 (by decide) ?_
  refine lv_istore_n (lv' := [(2, .int 1), (0, .ref a0), (1, .int x1)]) hx hb dX7_sayAtom_1 rfl hl (by decide) rfl (fun ls hl => ?_)
  refine lv_iconst (v := 0) hx hb dX7_sayAtom_2 (by decide) ?_
  refine lv_istore_n (lv' := [(3, .int 0), (2, .int 1), (0, .ref a0), (1, .int x1)]) hx hb dX7_sayAtom_3 rfl hl (by decide) rfl (fun ls hl => ?_)
  exact w_X7_sayAtom_4 CX hK hsz N outSize out x1 1 0 _ _ _ h hP hD hS (lv_sub hl [2, 3, 1, 0] rfl)
