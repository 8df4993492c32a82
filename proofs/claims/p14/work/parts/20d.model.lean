section G_X7_out
abbrev ws_X7_out (cI cJ cB : ClassId) (a0 a_kind a_left a_right a_many a_bits a_rows a_table a_roots a_moved a_text a_above a_below a_row a_sum a_point a_pointRows a_pointSorts a_out : Nat) (thrown : Int32) (used : Int32) (rooted : Int32) (size : Int32) (outSize : Int32) (points : Int32) (takenOut : Int32) (great : Int32) (at_ : Int32) (fault : Int32) (open_ : Int32) (wrong : Int32) (by_ : Int64) (sort : Int32) (variable_ : Int32) (pointCount : Int32) (out : Nat → Int32) : va_W := [(a0, .inr (9, [.int thrown, .ref a_kind, .ref a_left, .ref a_right, .ref a_many, .ref a_bits, .ref a_rows, .ref a_table, .int used, .ref a_roots, .int rooted, .ref a_moved, .ref a_text, .int size, .ref a_out, .int outSize, .ref a_above, .ref a_below, .int points, .int takenOut, .int great, .ref a_row, .int at_, .int fault, .int open_, .int wrong, .ref a_sum, .ref a_point, .long by_, .int sort, .int variable_, .ref a_pointRows, .ref a_pointSorts, .int pointCount])), (a_out, .inl (cB, 12000, .inl out))]
abbrev rm_X7_out : Room := { frames := 0, cells := 0, slots := 0, locals := 0 }
def f_X7_out_76 (K10 : Int32 → Int32 → (Nat → Int32) → Int32 → Int64 → Int32 → Option (Int64 × (Int32))) (N : Nat) (thrown : Int32) (outSize : Int32) (out : Nat → Int32) (y1 : Int32) (y4 : Int32) (s0 : Int64) (s1 : Int64) : Option (Int64 × (Int32)) := K10 thrown outSize out y1 (s0 ||| s1) (y4 + 1)
def f_X7_out_75 (K10 : Int32 → Int32 → (Nat → Int32) → Int32 → Int64 → Int32 → Option (Int64 × (Int32))) (N : Nat) (thrown : Int32) (outSize : Int32) (out : Nat → Int32) (y1 : Int32) (y4 : Int32) (s0 : Int64) : Option (Int64 × (Int32)) := f_X7_out_76 K10 N thrown outSize out y1 y4 s0 0
def f_X7_out_10 (N : Nat) : Nat → Int32 → Int32 → (Nat → Int32) → Int32 → Int64 → Int32 → Option (Int64 × (Int32))
  | 0 => fun _ _ _ _ _ _ => none
  | n + 1 => fun thrown outSize out y1 y2 y4 => ifb (8 ≤ y4) (some (y2, thrown)) (ifb ((lg_cmp (y1.toInt64 + y4.toInt64) 0) < 0) (f_X7_out_75 (f_X7_out_10 N n) N thrown outSize out y1 y4 y2) (ifb (0 ≤ (lg_cmp (y1.toInt64 + y4.toInt64) outSize.toInt64)) (f_X7_out_75 (f_X7_out_10 N n) N thrown outSize out y1 y4 y2) (ifb (0 ≤ (lg_cmp (y1.toInt64 + y4.toInt64) 12000)) (f_X7_out_75 (f_X7_out_10 N n) N thrown outSize out y1 y4 y2) (ix ((y1.toInt64 + y4.toInt64).toInt32) 12000 (f_X7_out_76 (f_X7_out_10 N n) N thrown outSize out y1 y4 y2 ((((out ((y1.toInt64 + y4.toInt64).toInt32).toNatClampNeg).toInt64) &&& 255) <<< ((8 * y4).toInt64 &&& 63)))))))
def f_X7_out (N : Nat) (thrown : Int32) (outSize : Int32) (out : Nat → Int32) (x1 : Int32) : Option (Int64 × (Int32)) := f_X7_out_10 N N 0 outSize out x1 0 0
variable {p : Program} {l : Launch} {e : Env} {s : State} {m : MethodId} {below : List Frame} {meth : Method} {c : Code} {args : Array Value} {x0 : Cond} {D : va_G} {cI cJ cB : ClassId} {sz N : Nat} {ws0 : va_W} {a0 a_kind a_left a_right a_many a_bits a_rows a_table a_roots a_moved a_text a_above a_below a_row a_sum a_point a_pointRows a_pointSorts a_out : Nat} {used : Int32} {rooted : Int32} {size : Int32} {outSize : Int32} {points : Int32} {takenOut : Int32} {great : Int32} {at_ : Int32} {fault : Int32} {open_ : Int32} {wrong : Int32} {by_ : Int64} {sort : Int32} {variable_ : Int32} {pointCount : Int32} {out : Nat → Int32} {z : Int64 × (Int32)}
set_option maxHeartbeats 4000000 in
set_option maxRecDepth 100000 in
theorem w_X7_out_76 (CX : Cx p m c cX7_out 7 s args x0 RX7 meth (some .long)) (hK : va_K D vwCl (ty0 cI cJ cB) s) (hsz : s.heap.size = sz) {K10 : Int32 → Int32 → (Nat → Int32) → Int32 → Int64 → Int32 → Option (Int64 × (Int32))} (hK10 : ∀ (thrown : Int32) (y1 : Int32) (y2 : Int64) (y4 : Int32) (H : Heap) (locs : List Loc) (ls : Array Slot), K10 thrown outSize out y1 y2 y4 = some z → va_P D vwCl (ws_X7_out cI cJ cB a0 a_kind a_left a_right a_many a_bits a_rows a_table a_roots a_moved a_text a_above a_below a_row a_sum a_point a_pointRows a_pointSorts a_out thrown used rooted size outSize points takenOut great at_ fault open_ wrong by_ sort variable_ pointCount out) H → va_D (va_A ws0 sz) (ws_X7_out cI cJ cB a0 a_kind a_left a_right a_many a_bits a_rows a_table a_roots a_moved a_text a_above a_below a_row a_sum a_point a_pointRows a_pointSorts a_out thrown used rooted size outSize points takenOut great at_ fault open_ wrong by_ sort variable_ pointCount out) → va_S (va_A ws0 sz) s.heap H locs → lv_has ls 7 [(0, .ref a0), (1, .int y1), (2, .long y2), (4, .int y4)] → W p l e rm_X7_out s m args below meth c H locs 0 0 (MQ below (gQ D sz ws0 (ws_X7_out cI cJ cB a0 a_kind a_left a_right a_many a_bits a_rows a_table a_roots a_moved a_text a_above a_below a_row a_sum a_point a_pointRows a_pointSorts a_out z.2 used rooted size outSize points takenOut great at_ fault open_ wrong by_ sort variable_ pointCount out) (some (.long z.1))) args s 0 0 (va_A ws0 sz)) (F0 m 10 ls [])) : ∀ (thrown : Int32) (y1 : Int32) (y4 : Int32) (s0 : Int64) (s1 : Int64) (H : Heap) (locs : List Loc) (ls : Array Slot), f_X7_out_76 K10 N thrown outSize out y1 y4 s0 s1 = some z → va_P D vwCl (ws_X7_out cI cJ cB a0 a_kind a_left a_right a_many a_bits a_rows a_table a_roots a_moved a_text a_above a_below a_row a_sum a_point a_pointRows a_pointSorts a_out thrown used rooted size outSize points takenOut great at_ fault open_ wrong by_ sort variable_ pointCount out) H → va_D (va_A ws0 sz) (ws_X7_out cI cJ cB a0 a_kind a_left a_right a_many a_bits a_rows a_table a_roots a_moved a_text a_above a_below a_row a_sum a_point a_pointRows a_pointSorts a_out thrown used rooted size outSize points takenOut great at_ fault open_ wrong by_ sort variable_ pointCount out) → va_S (va_A ws0 sz) s.heap H locs → lv_has ls 7 [(0, .ref a0), (1, .int y1), (4, .int y4)] → W p l e rm_X7_out s m args below meth c H locs 0 0 (MQ below (gQ D sz ws0 (ws_X7_out cI cJ cB a0 a_kind a_left a_right a_many a_bits a_rows a_table a_roots a_moved a_text a_above a_below a_row a_sum a_point a_pointRows a_pointSorts a_out z.2 used rooted size outSize points takenOut great at_ fault open_ wrong by_ sort variable_ pointCount out) (some (.long z.1))) args s 0 0 (va_A ws0 sz)) (F0 m 76 ls [.long s1, .long s0]) := by
  obtain ⟨F, hr, hlk, hNw⟩ := id CX
  have hx := F.1
  have hb := F.2.1
  have hown := F.2.2.2.1
  have hA : ∀ q, s.heap.size ≤ q → va_A ws0 sz q := fun q hq => Or.inr (hsz ▸ hq)
  intro thrown y1 y4 s0 s1 H locs ls h hP hD hS hl
  unfold f_X7_out_76 at h
  refine lv_lor hx hb dX7_out_76 ?_
  refine lv_lstore_n (lv' := [(2, .long (s0 ||| s1)), (0, .ref a0), (1, .int y1), (4, .int y4)]) hx hb dX7_out_77 rfl hl (by decide) rfl (fun ls hl => ?_)
  refine lv_iinc (v := y4 + 1) (lv' := [(4, .int (y4 + 1)), (2, .long (s0 ||| s1)), (0, .ref a0), (1, .int y1)]) hx hb dX7_out_78 hl (k := 3) rfl rfl (by decide) rfl (fun ls hl => ?_)
  refine lv_goto (tgt := 10) hx hb dX7_out_81 (by decide) ?_
  exact hK10 thrown y1 (s0 ||| s1) (y4 + 1) _ _ _ h hP hD hS (lv_sub hl [2, 3, 1, 0] rfl)
set_option maxHeartbeats 4000000 in
set_option maxRecDepth 100000 in
theorem w_X7_out_75 (CX : Cx p m c cX7_out 7 s args x0 RX7 meth (some .long)) (hK : va_K D vwCl (ty0 cI cJ cB) s) (hsz : s.heap.size = sz) {K10 : Int32 → Int32 → (Nat → Int32) → Int32 → Int64 → Int32 → Option (Int64 × (Int32))} (hK10 : ∀ (thrown : Int32) (y1 : Int32) (y2 : Int64) (y4 : Int32) (H : Heap) (locs : List Loc) (ls : Array Slot), K10 thrown outSize out y1 y2 y4 = some z → va_P D vwCl (ws_X7_out cI cJ cB a0 a_kind a_left a_right a_many a_bits a_rows a_table a_roots a_moved a_text a_above a_below a_row a_sum a_point a_pointRows a_pointSorts a_out thrown used rooted size outSize points takenOut great at_ fault open_ wrong by_ sort variable_ pointCount out) H → va_D (va_A ws0 sz) (ws_X7_out cI cJ cB a0 a_kind a_left a_right a_many a_bits a_rows a_table a_roots a_moved a_text a_above a_below a_row a_sum a_point a_pointRows a_pointSorts a_out thrown used rooted size outSize points takenOut great at_ fault open_ wrong by_ sort variable_ pointCount out) → va_S (va_A ws0 sz) s.heap H locs → lv_has ls 7 [(0, .ref a0), (1, .int y1), (2, .long y2), (4, .int y4)] → W p l e rm_X7_out s m args below meth c H locs 0 0 (MQ below (gQ D sz ws0 (ws_X7_out cI cJ cB a0 a_kind a_left a_right a_many a_bits a_rows a_table a_roots a_moved a_text a_above a_below a_row a_sum a_point a_pointRows a_pointSorts a_out z.2 used rooted size outSize points takenOut great at_ fault open_ wrong by_ sort variable_ pointCount out) (some (.long z.1))) args s 0 0 (va_A ws0 sz)) (F0 m 10 ls [])) : ∀ (thrown : Int32) (y1 : Int32) (y4 : Int32) (s0 : Int64) (H : Heap) (locs : List Loc) (ls : Array Slot), f_X7_out_75 K10 N thrown outSize out y1 y4 s0 = some z → va_P D vwCl (ws_X7_out cI cJ cB a0 a_kind a_left a_right a_many a_bits a_rows a_table a_roots a_moved a_text a_above a_below a_row a_sum a_point a_pointRows a_pointSorts a_out thrown used rooted size outSize points takenOut great at_ fault open_ wrong by_ sort variable_ pointCount out) H → va_D (va_A ws0 sz) (ws_X7_out cI cJ cB a0 a_kind a_left a_right a_many a_bits a_rows a_table a_roots a_moved a_text a_above a_below a_row a_sum a_point a_pointRows a_pointSorts a_out thrown used rooted size outSize points takenOut great at_ fault open_ wrong by_ sort variable_ pointCount out) → va_S (va_A ws0 sz) s.heap H locs → lv_has ls 7 [(0, .ref a0), (1, .int y1), (4, .int y4)] → W p l e rm_X7_out s m args below meth c H locs 0 0 (MQ below (gQ D sz ws0 (ws_X7_out cI cJ cB a0 a_kind a_left a_right a_many a_bits a_rows a_table a_roots a_moved a_text a_above a_below a_row a_sum a_point a_pointRows a_pointSorts a_out z.2 used rooted size outSize points takenOut great at_ fault open_ wrong by_ sort variable_ pointCount out) (some (.long z.1))) args s 0 0 (va_A ws0 sz)) (F0 m 75 ls [.long s0]) := by
  obtain ⟨F, hr, hlk, hNw⟩ := id CX
  have hx := F.1
  have hb := F.2.1
  have hown := F.2.2.2.1
  have hA : ∀ q, s.heap.size ≤ q → va_A ws0 sz q := fun q hq => Or.inr (hsz ▸ hq)
  intro thrown y1 y4 s0 H locs ls h hP hD hS hl
  unfold f_X7_out_75 at h
  refine lv_lconst (v := 0) hx hb dX7_out_75 (by decide) ?_
  exact w_X7_out_76 CX hK hsz (hK10 := hK10) thrown y1 y4 s0 0 _ _ _ h hP hD hS (lv_sub hl [0, 1, 2] rfl)
set_option maxHeartbeats 4000000 in
set_option maxRecDepth 100000 in
theorem w_X7_out_10 (CX : Cx p m c cX7_out 7 s args x0 RX7 meth (some .long)) (hK : va_K D vwCl (ty0 cI cJ cB) s) (hsz : s.heap.size = sz) : ∀ (n : Nat), ∀ (thrown : Int32) (y1 : Int32) (y2 : Int64) (y4 : Int32) (H : Heap) (locs : List Loc) (ls : Array Slot), f_X7_out_10 N n thrown outSize out y1 y2 y4 = some z → va_P D vwCl (ws_X7_out cI cJ cB a0 a_kind a_left a_right a_many a_bits a_rows a_table a_roots a_moved a_text a_above a_below a_row a_sum a_point a_pointRows a_pointSorts a_out thrown used rooted size outSize points takenOut great at_ fault open_ wrong by_ sort variable_ pointCount out) H → va_D (va_A ws0 sz) (ws_X7_out cI cJ cB a0 a_kind a_left a_right a_many a_bits a_rows a_table a_roots a_moved a_text a_above a_below a_row a_sum a_point a_pointRows a_pointSorts a_out thrown used rooted size outSize points takenOut great at_ fault open_ wrong by_ sort variable_ pointCount out) → va_S (va_A ws0 sz) s.heap H locs → lv_has ls 7 [(0, .ref a0), (1, .int y1), (2, .long y2), (4, .int y4)] → W p l e rm_X7_out s m args below meth c H locs 0 0 (MQ below (gQ D sz ws0 (ws_X7_out cI cJ cB a0 a_kind a_left a_right a_many a_bits a_rows a_table a_roots a_moved a_text a_above a_below a_row a_sum a_point a_pointRows a_pointSorts a_out z.2 used rooted size outSize points takenOut great at_ fault open_ wrong by_ sort variable_ pointCount out) (some (.long z.1))) args s 0 0 (va_A ws0 sz)) (F0 m 10 ls []) := by
  obtain ⟨F, hr, hlk, hNw⟩ := id CX
  have hx := F.1
  have hb := F.2.1
  have hown := F.2.2.2.1
  have hA : ∀ q, s.heap.size ≤ q → va_A ws0 sz q := fun q hq => Or.inr (hsz ▸ hq)
  intro n
  induction n with
  | zero =>
    intro thrown y1 y2 y4 H locs ls h
    cases h
  | succ n ih =>
    intro thrown y1 y2 y4 H locs ls h hP hD hS hl
    unfold f_X7_out_10 at h
    refine lv_iload hx hb dX7_out_10 (lv_at hl 3 rfl) ?_
    refine lv_bipush (v := 8) hx hb dX7_out_12 (by decide) ?_
    refine lv_icmp_ge (tgt := 84) hx hb dX7_out_14 (by decide) (fun c14 => ?_) (fun c14 => ?_)
    · have h := o_t c14 h
      refine lv_lload_n hx hb dX7_out_84 rfl (lv_at hl 2 rfl) ?_
      obtain rfl := Option.some.inj h
      exact r_lret F hr hlk dX7_out_85 hsz hP hD hS
    · have h := o_f c14 h
      refine lv_iload_n hx hb dX7_out_17 rfl (lv_at hl 1 rfl) ?_
      refine lv_i2l hx hb dX7_out_18 rfl ?_
      refine lv_iload hx hb dX7_out_19 (lv_at hl 3 rfl) ?_
      refine lv_i2l hx hb dX7_out_21 rfl ?_
      refine lv_ladd hx hb dX7_out_22 ?_
      refine lv_lstore (lv' := [(5, .long (y1.toInt64 + y4.toInt64)), (0, .ref a0), (1, .int y1), (2, .long y2), (4, .int y4)]) hx hb dX7_out_23 hl (by decide) rfl (fun ls hl => ?_)
      refine lv_lload_n hx hb dX7_out_25 rfl (lv_at hl 3 rfl) ?_
      refine lv_lload hx hb dX7_out_26 (lv_at hl 0 rfl) ?_
      refine lv_lconst (v := 0) hx hb dX7_out_28 (by decide) ?_
      refine W.lcmp hx hb dX7_out_29 ?_
      refine lv_if_lt (tgt := 75) hx hb dX7_out_30 (by decide) (fun c30 => ?_) (fun c30 => ?_)
      · have h := o_t c30 h
        exact w_X7_out_75 CX hK hsz (hK10 := ih) thrown y1 y4 y2 _ _ _ h hP hD hS (lv_sub hl [1, 2, 4] rfl)
      · have h := o_f c30 h
        refine lv_lload hx hb dX7_out_33 (lv_at hl 0 rfl) ?_
        refine lv_aload_n hx hb dX7_out_35 rfl (lv_at hl 1 rfl) ?_
        refine r_get F hK hP 0 15 rfl inW_X7 wm_1107 rfl (by decide) rfl dX7_out_36 ?_
        refine lv_i2l hx hb dX7_out_39 rfl ?_
        refine W.lcmp hx hb dX7_out_40 ?_
        refine lv_if_ge (tgt := 75) hx hb dX7_out_41 (by decide) (fun c41 => ?_) (fun c41 => ?_)
        · have h := o_t c41 h
          exact w_X7_out_75 CX hK hsz (hK10 := ih) thrown y1 y4 y2 _ _ _ h hP hD hS (lv_sub hl [1, 2, 4] rfl)
        · have h := o_f c41 h
          refine lv_lload hx hb dX7_out_44 (lv_at hl 0 rfl) ?_
          refine lv_ldc2 (v := 12000) hx hb hown (F.2.2.2.2 _ (q_in wm_1383)) dX7_out_46 ?_
          refine W.lcmp hx hb dX7_out_49 ?_
          refine lv_if_ge (tgt := 75) hx hb dX7_out_50 (by decide) (fun c50 => ?_) (fun c50 => ?_)
          · have h := o_t c50 h
            exact w_X7_out_75 CX hK hsz (hK10 := ih) thrown y1 y4 y2 _ _ _ h hP hD hS (lv_sub hl [1, 2, 4] rfl)
          · have h := o_f c50 h
            refine lv_aload_n hx hb dX7_out_53 rfl (lv_at hl 1 rfl) ?_
            refine r_get F hK hP 0 14 rfl inW_X7 wm_1106 rfl (by decide) rfl dX7_out_54 ?_
            refine lv_lload hx hb dX7_out_57 (lv_at hl 0 rfl) ?_
            refine lv_l2i hx hb dX7_out_59 rfl ?_
            obtain ⟨hi60, h⟩ := o_ix h
            refine va_bald hx hb hK hP 1 2 rfl rfl hi60 dX7_out_60 ?_
            refine lv_i2l hx hb dX7_out_61 rfl ?_
            refine lv_ldc2 (v := 255) hx hb hown (F.2.2.2.2 _ (q_in wm_1384)) dX7_out_62 ?_
            refine lv_land hx hb dX7_out_65 ?_
            refine lv_bipush (v := 8) hx hb dX7_out_66 (by decide) ?_
            refine lv_iload hx hb dX7_out_68 (lv_at hl 4 rfl) ?_
            refine lv_imul hx hb dX7_out_70 ?_
            refine lv_lshl hx hb dX7_out_71 rfl ?_
            refine lv_goto (tgt := 76) hx hb dX7_out_72 (by decide) ?_
            exact w_X7_out_76 CX hK hsz (hK10 := ih) thrown y1 y4 y2 ((((out ((y1.toInt64 + y4.toInt64).toInt32).toNatClampNeg).toInt64) &&& 255) <<< ((8 * y4).toInt64 &&& 63)) _ _ _ h hP hD hS (lv_sub hl [1, 2, 4] rfl)
end G_X7_out
set_option maxHeartbeats 4000000 in
set_option maxRecDepth 100000 in
theorem c_X7_out (l : Launch) (D : va_G) (cI cJ cB : ClassId) (a0 a_kind a_left a_right a_many a_bits a_rows a_table a_roots a_moved a_text a_above a_below a_row a_sum a_point a_pointRows a_pointSorts a_out : Nat) (sz : Nat) (thrown : Int32) (used : Int32) (rooted : Int32) (size : Int32) (outSize : Int32) (points : Int32) (takenOut : Int32) (great : Int32) (at_ : Int32) (fault : Int32) (open_ : Int32) (wrong : Int32) (by_ : Int64) (sort : Int32) (variable_ : Int32) (pointCount : Int32) (out : Nat → Int32) (x1 : Int32) (N : Nat) {z : Int64 × (Int32)} (h : f_X7_out N thrown outSize out x1 = some z) : Mg l yX7_out cX7_out 7 (some .long) rm_X7_out D (ty0 cI cJ cB) [.ref a0, .int x1] sz (ws_X7_out cI cJ cB a0 a_kind a_left a_right a_many a_bits a_rows a_table a_roots a_moved a_text a_above a_below a_row a_sum a_point a_pointRows a_pointSorts a_out thrown used rooted size outSize points takenOut great at_ fault open_ wrong by_ sort variable_ pointCount out) (some (.long z.1)) (ws_X7_out cI cJ cB a0 a_kind a_left a_right a_many a_bits a_rows a_table a_roots a_moved a_text a_above a_below a_row a_sum a_point a_pointRows a_pointSorts a_out z.2 used rooted size outSize points takenOut great at_ fault open_ wrong by_ sort variable_ pointCount out) := by
  refine Mg.of (by decide) (Nat.le_of_ble_eq_true rfl) ?_
  intro p e s m below meth c CX hK hsz hP hD ls hl
  have CX : Cx p m c cX7_out 7 s ([.ref a0, .int x1] : List Value).toArray (Cond.code yX7_out cX7_out 7 (some .long)) RX7 meth (some .long) := CX
  obtain ⟨F, hr, hlk, hNw⟩ := id CX
  have hx := F.1
  have hb := F.2.1
  have hown := F.2.2.2.1
  have hl : lv_has ls 7 [(0, .ref a0), (1, .int x1)] := hl
  have hS : va_S (va_A (ws_X7_out cI cJ cB a0 a_kind a_left a_right a_many a_bits a_rows a_table a_roots a_moved a_text a_above a_below a_row a_sum a_point a_pointRows a_pointSorts a_out thrown used rooted size outSize points takenOut great at_ fault open_ wrong by_ sort variable_ pointCount out) sz) s.heap s.heap [] := va_S.rf
  have hA : ∀ q, s.heap.size ≤ q → va_A (ws_X7_out cI cJ cB a0 a_kind a_left a_right a_many a_bits a_rows a_table a_roots a_moved a_text a_above a_below a_row a_sum a_point a_pointRows a_pointSorts a_out thrown used rooted size outSize points takenOut great at_ fault open_ wrong by_ sort variable_ pointCount out) sz q := fun q hq => Or.inr (hsz ▸ hq)
  unfold f_X7_out at h
  refine lv_aload_n hx hb dX7_out_0 rfl (lv_at hl 0 rfl) ?_
  refine lv_iconst (v := 0) hx hb dX7_out_1 (by decide) ?_
  refine r_put (wn := (ws_X7_out cI cJ cB a0 a_kind a_left a_right a_many a_bits a_rows a_table a_roots a_moved a_text a_above a_below a_row a_sum a_point a_pointRows a_pointSorts a_out 0 used rooted size outSize points takenOut great at_ fault open_ wrong by_ sort variable_ pointCount out)) F hK hP hD hS 0 0 rfl inW_X7 wm_1092 tyX7_ok nmX7 rfl rfl (by decide) rfl rfl (Nat.le_of_ble_eq_true rfl) rfl dX7_out_2 (fun H locs hP hD hS => ?_)
  refine lv_lconst (v := 0) hx hb dX7_out_5 (by decide) ?_
  refine lv_lstore_n (lv' := [(2, .long 0), (0, .ref a0), (1, .int x1)]) hx hb dX7_out_6 rfl hl (by decide) rfl (fun ls hl => ?_)
  refine lv_iconst (v := 0) hx hb dX7_out_7 (by decide) ?_
  refine lv_istore (lv' := [(4, .int 0), (2, .long 0), (0, .ref a0), (1, .int x1)]) hx hb dX7_out_8 hl (by decide) rfl (fun ls hl => ?_)
  exact w_X7_out_10 CX hK hsz N 0 x1 0 0 _ _ _ h hP hD hS (lv_sub hl [2, 3, 1, 0] rfl)
section G_X7_pass
abbrev ws_X7_pass (cI cJ cB : ClassId) (a0 a_kind a_left a_right a_many a_bits a_rows a_table a_roots a_moved a_above a_below a_row a_sum a_point a_pointRows a_pointSorts a_text a_out : Nat) (thrown : Int32) (used : Int32) (rooted : Int32) (size : Int32) (outSize : Int32) (points : Int32) (takenOut : Int32) (great : Int32) (at_ : Int32) (fault : Int32) (open_ : Int32) (wrong : Int32) (by_ : Int64) (sort : Int32) (variable_ : Int32) (pointCount : Int32) (text : Nat → Int32) (out : Nat → Int32) : va_W := [(a0, .inr (9, [.int thrown, .ref a_kind, .ref a_left, .ref a_right, .ref a_many, .ref a_bits, .ref a_rows, .ref a_table, .int used, .ref a_roots, .int rooted, .ref a_moved, .ref a_text, .int size, .ref a_out, .int outSize, .ref a_above, .ref a_below, .int points, .int takenOut, .int great, .ref a_row, .int at_, .int fault, .int open_, .int wrong, .ref a_sum, .ref a_point, .long by_, .int sort, .int variable_, .ref a_pointRows, .ref a_pointSorts, .int pointCount])), (a_text, .inl (cB, 240, .inl text)), (a_out, .inl (cB, 12000, .inl out))]
abbrev rm_X7_pass : Room := { frames := 0, cells := 0, slots := 0, locals := 0 }
def f_X7_pass_31 (N : Nat) : Nat → Int32 → Int32 → Int32 → (Nat → Int32) → (Nat → Int32) → Int32 → Option (Int32 × (Int32) × (Int32) × (Nat → Int32))
  | 0 => fun _ _ _ _ _ _ => none
  | n + 1 => fun thrown size outSize text out y1 => ifb (size ≤ y1) (some (size, thrown, size, text)) (ix y1 12000 (ix y1 240 (f_X7_pass_31 N n thrown size outSize (upd text y1.toNatClampNeg (vp_nar .byte (out y1.toNatClampNeg))) out (y1 + 1))))
def f_X7_pass_26 (N : Nat) (thrown : Int32) (size : Int32) (outSize : Int32) (text : Nat → Int32) (out : Nat → Int32) (s1 : Int32) : Option (Int32 × (Int32) × (Int32) × (Nat → Int32)) := f_X7_pass_31 N N thrown s1 outSize text out 0
def f_X7_pass (N : Nat) (thrown : Int32) (size : Int32) (outSize : Int32) (text : Nat → Int32) (out : Nat → Int32) : Option (Int32 × (Int32) × (Int32) × (Nat → Int32)) := ifb (240 ≤ outSize) (f_X7_pass_26 N 0 size outSize text out 240) (f_X7_pass_26 N 0 size outSize text out outSize)
variable {p : Program} {l : Launch} {e : Env} {s : State} {m : MethodId} {below : List Frame} {meth : Method} {c : Code} {args : Array Value} {x0 : Cond} {D : va_G} {cI cJ cB : ClassId} {sz N : Nat} {ws0 : va_W} {a0 a_kind a_left a_right a_many a_bits a_rows a_table a_roots a_moved a_above a_below a_row a_sum a_point a_pointRows a_pointSorts a_text a_out : Nat} {used : Int32} {rooted : Int32} {outSize : Int32} {points : Int32} {takenOut : Int32} {great : Int32} {at_ : Int32} {fault : Int32} {open_ : Int32} {wrong : Int32} {by_ : Int64} {sort : Int32} {variable_ : Int32} {pointCount : Int32} {out : Nat → Int32} {z : Int32 × (Int32) × (Int32) × (Nat → Int32)}
set_option maxHeartbeats 4000000 in
set_option maxRecDepth 100000 in
theorem w_X7_pass_31 (CX : Cx p m c cX7_pass 2 s args x0 RX7 meth (some .int)) (hK : va_K D vwCl (ty0 cI cJ cB) s) (hsz : s.heap.size = sz) : ∀ (n : Nat), ∀ (thrown : Int32) (size : Int32) (text : Nat → Int32) (y1 : Int32) (H : Heap) (locs : List Loc) (ls : Array Slot), f_X7_pass_31 N n thrown size outSize text out y1 = some z → va_P D vwCl (ws_X7_pass cI cJ cB a0 a_kind a_left a_right a_many a_bits a_rows a_table a_roots a_moved a_above a_below a_row a_sum a_point a_pointRows a_pointSorts a_text a_out thrown used rooted size outSize points takenOut great at_ fault open_ wrong by_ sort variable_ pointCount text out) H → va_D (va_A ws0 sz) (ws_X7_pass cI cJ cB a0 a_kind a_left a_right a_many a_bits a_rows a_table a_roots a_moved a_above a_below a_row a_sum a_point a_pointRows a_pointSorts a_text a_out thrown used rooted size outSize points takenOut great at_ fault open_ wrong by_ sort variable_ pointCount text out) → va_S (va_A ws0 sz) s.heap H locs → lv_has ls 2 [(0, .ref a0), (1, .int y1)] → W p l e rm_X7_pass s m args below meth c H locs 0 0 (MQ below (gQ D sz ws0 (ws_X7_pass cI cJ cB a0 a_kind a_left a_right a_many a_bits a_rows a_table a_roots a_moved a_above a_below a_row a_sum a_point a_pointRows a_pointSorts a_text a_out z.2.1 used rooted z.2.2.1 outSize points takenOut great at_ fault open_ wrong by_ sort variable_ pointCount z.2.2.2 out) (some (.int z.1))) args s 0 0 (va_A ws0 sz)) (F0 m 31 ls []) := by
  obtain ⟨F, hr, hlk, hNw⟩ := id CX
  have hx := F.1
  have hb := F.2.1
  have hown := F.2.2.2.1
  have hA : ∀ q, s.heap.size ≤ q → va_A ws0 sz q := fun q hq => Or.inr (hsz ▸ hq)
  intro n
  induction n with
  | zero =>
    intro thrown size text y1 H locs ls h
    cases h
  | succ n ih =>
    intro thrown size text y1 H locs ls h hP hD hS hl
    unfold f_X7_pass_31 at h
    refine lv_iload_n hx hb dX7_pass_31 rfl (lv_at hl 1 rfl) ?_
    refine lv_aload_n hx hb dX7_pass_32 rfl (lv_at hl 0 rfl) ?_
    refine r_get F hK hP 0 13 rfl inW_X7 wm_1105 rfl (by decide) rfl dX7_pass_33 ?_
    refine lv_icmp_ge (tgt := 57) hx hb dX7_pass_36 (by decide) (fun c36 => ?_) (fun c36 => ?_)
    · have h := o_t c36 h
      refine lv_aload_n hx hb dX7_pass_57 rfl (lv_at hl 0 rfl) ?_
      refine r_get F hK hP 0 13 rfl inW_X7 wm_1105 rfl (by decide) rfl dX7_pass_58 ?_
      obtain rfl := Option.some.inj h
      exact r_ret (v := size) F hr hlk rfl dX7_pass_61 hsz hP hD hS
    · have h := o_f c36 h
      refine lv_aload_n hx hb dX7_pass_39 rfl (lv_at hl 0 rfl) ?_
      refine r_get F hK hP 0 12 rfl inW_X7 wm_1104 rfl (by decide) rfl dX7_pass_40 ?_
      refine lv_iload_n hx hb dX7_pass_43 rfl (lv_at hl 1 rfl) ?_
      refine lv_aload_n hx hb dX7_pass_44 rfl (lv_at hl 0 rfl) ?_
      refine r_get F hK hP 0 14 rfl inW_X7 wm_1106 rfl (by decide) rfl dX7_pass_45 ?_
      refine lv_iload_n hx hb dX7_pass_48 rfl (lv_at hl 1 rfl) ?_
      obtain ⟨hi49, h⟩ := o_ix h
      refine va_bald hx hb hK hP 2 2 rfl rfl hi49 dX7_pass_49 ?_
      obtain ⟨hi50, h⟩ := o_ix h
      refine r_bast (wn := (ws_X7_pass cI cJ cB a0 a_kind a_left a_right a_many a_bits a_rows a_table a_roots a_moved a_above a_below a_row a_sum a_point a_pointRows a_pointSorts a_text a_out thrown used rooted size outSize points takenOut great at_ fault open_ wrong by_ sort variable_ pointCount (upd text y1.toNatClampNeg (vp_nar .byte (out y1.toNatClampNeg))) out)) F hK hP hD hS 1 2 hi50 rfl rfl rfl dX7_pass_50 (fun H locs hP hD hS => ?_)
      refine lv_iinc (v := y1 + 1) (lv' := [(1, .int (y1 + 1)), (0, .ref a0)]) hx hb dX7_pass_51 hl (k := 1) rfl rfl (by decide) rfl (fun ls hl => ?_)
      refine lv_goto (tgt := 31) hx hb dX7_pass_54 (by decide) ?_
      exact ih thrown size (upd text y1.toNatClampNeg (vp_nar .byte (out y1.toNatClampNeg))) (y1 + 1) _ _ _ h hP hD hS (lv_sub hl [1, 0] rfl)
set_option maxHeartbeats 4000000 in
set_option maxRecDepth 100000 in
theorem w_X7_pass_26 (CX : Cx p m c cX7_pass 2 s args x0 RX7 meth (some .int)) (hK : va_K D vwCl (ty0 cI cJ cB) s) (hsz : s.heap.size = sz) : ∀ (thrown : Int32) (size : Int32) (text : Nat → Int32) (s1 : Int32) (H : Heap) (locs : List Loc) (ls : Array Slot), f_X7_pass_26 N thrown size outSize text out s1 = some z → va_P D vwCl (ws_X7_pass cI cJ cB a0 a_kind a_left a_right a_many a_bits a_rows a_table a_roots a_moved a_above a_below a_row a_sum a_point a_pointRows a_pointSorts a_text a_out thrown used rooted size outSize points takenOut great at_ fault open_ wrong by_ sort variable_ pointCount text out) H → va_D (va_A ws0 sz) (ws_X7_pass cI cJ cB a0 a_kind a_left a_right a_many a_bits a_rows a_table a_roots a_moved a_above a_below a_row a_sum a_point a_pointRows a_pointSorts a_text a_out thrown used rooted size outSize points takenOut great at_ fault open_ wrong by_ sort variable_ pointCount text out) → va_S (va_A ws0 sz) s.heap H locs → lv_has ls 2 [(0, .ref a0)] → W p l e rm_X7_pass s m args below meth c H locs 0 0 (MQ below (gQ D sz ws0 (ws_X7_pass cI cJ cB a0 a_kind a_left a_right a_many a_bits a_rows a_table a_roots a_moved a_above a_below a_row a_sum a_point a_pointRows a_pointSorts a_text a_out z.2.1 used rooted z.2.2.1 outSize points takenOut great at_ fault open_ wrong by_ sort variable_ pointCount z.2.2.2 out) (some (.int z.1))) args s 0 0 (va_A ws0 sz)) (F0 m 26 ls [.int s1, .ref a0]) := by
  obtain ⟨F, hr, hlk, hNw⟩ := id CX
  have hx := F.1
  have hb := F.2.1
  have hown := F.2.2.2.1
  have hA : ∀ q, s.heap.size ≤ q → va_A ws0 sz q := fun q hq => Or.inr (hsz ▸ hq)
  intro thrown size text s1 H locs ls h hP hD hS hl
  unfold f_X7_pass_26 at h
  refine r_put (wn := (ws_X7_pass cI cJ cB a0 a_kind a_left a_right a_many a_bits a_rows a_table a_roots a_moved a_above a_below a_row a_sum a_point a_pointRows a_pointSorts a_text a_out thrown used rooted s1 outSize points takenOut great at_ fault open_ wrong by_ sort variable_ pointCount text out)) F hK hP hD hS 0 13 rfl inW_X7 wm_1105 tyX7_ok nmX7 rfl rfl (by decide) rfl rfl (Nat.le_of_ble_eq_true rfl) rfl dX7_pass_26 (fun H locs hP hD hS => ?_)
  refine lv_iconst (v := 0) hx hb dX7_pass_29 (by decide) ?_
  refine lv_istore_n (lv' := [(1, .int 0), (0, .ref a0)]) hx hb dX7_pass_30 rfl hl (by decide) rfl (fun ls hl => ?_)
  exact w_X7_pass_31 CX hK hsz N thrown s1 text 0 _ _ _ h hP hD hS (lv_sub hl [1, 0] rfl)
end G_X7_pass
set_option maxHeartbeats 4000000 in
set_option maxRecDepth 100000 in
theorem c_X7_pass (l : Launch) (D : va_G) (cI cJ cB : ClassId) (a0 a_kind a_left a_right a_many a_bits a_rows a_table a_roots a_moved a_above a_below a_row a_sum a_point a_pointRows a_pointSorts a_text a_out : Nat) (sz : Nat) (thrown : Int32) (used : Int32) (rooted : Int32) (size : Int32) (outSize : Int32) (points : Int32) (takenOut : Int32) (great : Int32) (at_ : Int32) (fault : Int32) (open_ : Int32) (wrong : Int32) (by_ : Int64) (sort : Int32) (variable_ : Int32) (pointCount : Int32) (text : Nat → Int32) (out : Nat → Int32) (N : Nat) {z : Int32 × (Int32) × (Int32) × (Nat → Int32)} (h : f_X7_pass N thrown size outSize text out = some z) : Mg l yX7_pass cX7_pass 2 (some .int) rm_X7_pass D (ty0 cI cJ cB) [.ref a0] sz (ws_X7_pass cI cJ cB a0 a_kind a_left a_right a_many a_bits a_rows a_table a_roots a_moved a_above a_below a_row a_sum a_point a_pointRows a_pointSorts a_text a_out thrown used rooted size outSize points takenOut great at_ fault open_ wrong by_ sort variable_ pointCount text out) (some (.int z.1)) (ws_X7_pass cI cJ cB a0 a_kind a_left a_right a_many a_bits a_rows a_table a_roots a_moved a_above a_below a_row a_sum a_point a_pointRows a_pointSorts a_text a_out z.2.1 used rooted z.2.2.1 outSize points takenOut great at_ fault open_ wrong by_ sort variable_ pointCount z.2.2.2 out) := by
  refine Mg.of (by decide) (Nat.le_of_ble_eq_true rfl) ?_
  intro p e s m below meth c CX hK hsz hP hD ls hl
  have CX : Cx p m c cX7_pass 2 s ([.ref a0] : List Value).toArray (Cond.code yX7_pass cX7_pass 2 (some .int)) RX7 meth (some .int) := CX
  obtain ⟨F, hr, hlk, hNw⟩ := id CX
  have hx := F.1
  have hb := F.2.1
  have hown := F.2.2.2.1
  have hl : lv_has ls 2 [(0, .ref a0)] := hl
  have hS : va_S (va_A (ws_X7_pass cI cJ cB a0 a_kind a_left a_right a_many a_bits a_rows a_table a_roots a_moved a_above a_below a_row a_sum a_point a_pointRows a_pointSorts a_text a_out thrown used rooted size outSize points takenOut great at_ fault open_ wrong by_ sort variable_ pointCount text out) sz) s.heap s.heap [] := va_S.rf
  have hA : ∀ q, s.heap.size ≤ q → va_A (ws_X7_pass cI cJ cB a0 a_kind a_left a_right a_many a_bits a_rows a_table a_roots a_moved a_above a_below a_row a_sum a_point a_pointRows a_pointSorts a_text a_out thrown used rooted size outSize points takenOut great at_ fault open_ wrong by_ sort variable_ pointCount text out) sz q := fun q hq => Or.inr (hsz ▸ hq)
  unfold f_X7_pass at h
  refine lv_aload_n hx hb dX7_pass_0 rfl (lv_at hl 0 rfl) ?_
  refine lv_iconst (v := 0) hx hb dX7_pass_1 (by decide) ?_
  refine r_put (wn := (ws_X7_pass cI cJ cB a0 a_kind a_left a_right a_many a_bits a_rows a_table a_roots a_moved a_above a_below a_row a_sum a_point a_pointRows a_pointSorts a_text a_out 0 used rooted size outSize points takenOut great at_ fault open_ wrong by_ sort variable_ pointCount text out)) F hK hP hD hS 0 0 rfl inW_X7 wm_1092 tyX7_ok nmX7 rfl rfl (by decide) rfl rfl (Nat.le_of_ble_eq_true rfl) rfl dX7_pass_2 (fun H locs hP hD hS => ?_)
  refine lv_aload_n hx hb dX7_pass_5 rfl (lv_at hl 0 rfl) ?_
  refine lv_aload_n hx hb dX7_pass_6 rfl (lv_at hl 0 rfl) ?_
  refine r_get F hK hP 0 15 rfl inW_X7 wm_1107 rfl (by decide) rfl dX7_pass_7 ?_
  refine lv_sipush (v := 240) hx hb dX7_pass_10 (by decide) ?_
  refine lv_icmp_ge (tgt := 23) hx hb dX7_pass_13 (by decide) (fun c13 => ?_) (fun c13 => ?_)
  · have h := o_t c13 h
    refine lv_sipush (v := 240) hx hb dX7_pass_23 (by decide) ?_
    exact w_X7_pass_26 CX hK hsz 0 size text 240 _ _ _ h hP hD hS (lv_sub hl [0] rfl)
  · have h := o_f c13 h
    refine lv_aload_n hx hb dX7_pass_16 rfl (lv_at hl 0 rfl) ?_
    refine r_get F hK hP 0 15 rfl inW_X7 wm_1107 rfl (by decide) rfl dX7_pass_17 ?_
    refine lv_goto (tgt := 26) hx hb dX7_pass_20 (by decide) ?_
    exact w_X7_pass_26 CX hK hsz 0 size text outSize _ _ _ h hP hD hS (lv_sub hl [0] rfl)
abbrev rmg_turned (d : Nat) : Room := { frames := 3 + d, cells := 0, slots := 0, locals := 79 + 23 * d }
abbrev ws_X7_turned (cI cJ cB : ClassId) (a0 a_roots a_moved a_text a_out a_above a_below a_sum a_point a_pointRows a_pointSorts a_kind a_left a_right a_many a_bits a_rows a_table a_row : Nat) (thrown : Int32) (used : Int32) (rooted : Int32) (size : Int32) (outSize : Int32) (points : Int32) (takenOut : Int32) (great : Int32) (at_ : Int32) (fault : Int32) (open_ : Int32) (wrong : Int32) (by_ : Int64) (sort : Int32) (variable_ : Int32) (pointCount : Int32) (kind : Nat → Int32) (left_ : Nat → Int32) (right_ : Nat → Int32) (many : Nat → Int32) (bits : Nat → Int32) (rows : Nat → Int32) (table : Nat → Int32) (row : Nat → Int64) : va_W := [(a0, .inr (9, [.int thrown, .ref a_kind, .ref a_left, .ref a_right, .ref a_many, .ref a_bits, .ref a_rows, .ref a_table, .int used, .ref a_roots, .int rooted, .ref a_moved, .ref a_text, .int size, .ref a_out, .int outSize, .ref a_above, .ref a_below, .int points, .int takenOut, .int great, .ref a_row, .int at_, .int fault, .int open_, .int wrong, .ref a_sum, .ref a_point, .long by_, .int sort, .int variable_, .ref a_pointRows, .ref a_pointSorts, .int pointCount])), (a_kind, .inl (cI, 24000, .inl kind)), (a_left, .inl (cI, 24000, .inl left_)), (a_right, .inl (cI, 24000, .inl right_)), (a_many, .inl (cI, 24000, .inl many)), (a_bits, .inl (cI, 24000, .inl bits)), (a_rows, .inl (cI, 216000, .inl rows)), (a_table, .inl (cI, 65536, .inl table)), (a_row, .inl (cJ, 9, .inr (.inl row)))]
def CP_X7_turned (l : Launch) (D : va_G) (cI cJ cB : ClassId) (rm : Room) (f : Int32 → (Nat → Int32) → (Nat → Int32) → (Nat → Int32) → (Nat → Int32) → (Nat → Int32) → (Nat → Int32) → (Nat → Int32) → (Nat → Int64) → Int32 → Option (Int32 × (Int32) × (Nat → Int32) × (Nat → Int32) × (Nat → Int32) × (Nat → Int32) × (Nat → Int32) × (Nat → Int32) × (Nat → Int32) × (Nat → Int64))) : Prop := ∀ (a0 a_roots a_moved a_text a_out a_above a_below a_sum a_point a_pointRows a_pointSorts a_kind a_left a_right a_many a_bits a_rows a_table a_row : Nat) (sz : Nat) (thrown : Int32) (used : Int32) (rooted : Int32) (size : Int32) (outSize : Int32) (points : Int32) (takenOut : Int32) (great : Int32) (at_ : Int32) (fault : Int32) (open_ : Int32) (wrong : Int32) (by_ : Int64) (sort : Int32) (variable_ : Int32) (pointCount : Int32) (kind : Nat → Int32) (left_ : Nat → Int32) (right_ : Nat → Int32) (many : Nat → Int32) (bits : Nat → Int32) (rows : Nat → Int32) (table : Nat → Int32) (row : Nat → Int64) (x1 : Int32) {z : Int32 × (Int32) × (Nat → Int32) × (Nat → Int32) × (Nat → Int32) × (Nat → Int32) × (Nat → Int32) × (Nat → Int32) × (Nat → Int32) × (Nat → Int64)}, f used kind left_ right_ many bits rows table row x1 = some z → Mg l yX7_turned cX7_turned 4 (some .int) rm D (ty0 cI cJ cB) [.ref a0, .int x1] sz (ws_X7_turned cI cJ cB a0 a_roots a_moved a_text a_out a_above a_below a_sum a_point a_pointRows a_pointSorts a_kind a_left a_right a_many a_bits a_rows a_table a_row thrown used rooted size outSize points takenOut great at_ fault open_ wrong by_ sort variable_ pointCount kind left_ right_ many bits rows table row) (some (.int z.1)) (ws_X7_turned cI cJ cB a0 a_roots a_moved a_text a_out a_above a_below a_sum a_point a_pointRows a_pointSorts a_kind a_left a_right a_many a_bits a_rows a_table a_row thrown z.2.1 rooted size outSize points takenOut great at_ fault open_ wrong by_ sort variable_ pointCount z.2.2.1 z.2.2.2.1 z.2.2.2.2.1 z.2.2.2.2.2.1 z.2.2.2.2.2.2.1 z.2.2.2.2.2.2.2.1 z.2.2.2.2.2.2.2.2.1 z.2.2.2.2.2.2.2.2.2)
section G_X7_turned
def f_X7_turned_72 (R_X7_turned : Int32 → (Nat → Int32) → (Nat → Int32) → (Nat → Int32) → (Nat → Int32) → (Nat → Int32) → (Nat → Int32) → (Nat → Int32) → (Nat → Int64) → Int32 → Option (Int32 × (Int32) × (Nat → Int32) × (Nat → Int32) × (Nat → Int32) × (Nat → Int32) × (Nat → Int32) × (Nat → Int32) × (Nat → Int32) × (Nat → Int64))) (K28 : Int32 → (Nat → Int32) → (Nat → Int32) → (Nat → Int32) → (Nat → Int32) → (Nat → Int32) → (Nat → Int32) → (Nat → Int32) → (Nat → Int64) → Int32 → Int32 → Int32 → Option (Int32 × (Int32) × (Nat → Int32) × (Nat → Int32) × (Nat → Int32) × (Nat → Int32) × (Nat → Int32) × (Nat → Int32) × (Nat → Int32) × (Nat → Int64))) (N : Nat) (used : Int32) (kind : Nat → Int32) (left_ : Nat → Int32) (right_ : Nat → Int32) (many : Nat → Int32) (bits : Nat → Int32) (rows : Nat → Int32) (table : Nat → Int32) (row : Nat → Int64) (y1 : Int32) (y2 : Int32) (y3 : Int32) (s1 : Int32) (s2 : Int64) : Option (Int32 × (Int32) × (Nat → Int32) × (Nat → Int32) × (Nat → Int32) × (Nat → Int32) × (Nat → Int32) × (Nat → Int32) × (Nat → Int32) × (Nat → Int64)) := ix s1 9 (K28 used kind left_ right_ many bits rows table (vp_updL row s1.toNatClampNeg s2) y1 y2 (y3 + 1))
def f_X7_turned_95 (R_X7_turned : Int32 → (Nat → Int32) → (Nat → Int32) → (Nat → Int32) → (Nat → Int32) → (Nat → Int32) → (Nat → Int32) → (Nat → Int32) → (Nat → Int64) → Int32 → Option (Int32 × (Int32) × (Nat → Int32) × (Nat → Int32) × (Nat → Int32) × (Nat → Int32) × (Nat → Int32) × (Nat → Int32) × (Nat → Int32) × (Nat → Int64))) (N : Nat) (used : Int32) (kind : Nat → Int32) (left_ : Nat → Int32) (right_ : Nat → Int32) (many : Nat → Int32) (bits : Nat → Int32) (rows : Nat → Int32) (table : Nat → Int32) (row : Nat → Int64) (s1 : Int32) (s2 : Int32) : Option (Int32 × (Int32) × (Nat → Int32) × (Nat → Int32) × (Nat → Int32) × (Nat → Int32) × (Nat → Int32) × (Nat → Int32) × (Nat → Int32) × (Nat → Int64)) := (f_X7_place N used kind left_ right_ many bits rows table row s1 s2 0).bind (fun z96 => some (z96.1, z96.2.1, z96.2.2.1, z96.2.2.2.1, z96.2.2.2.2.1, z96.2.2.2.2.2.1, z96.2.2.2.2.2.2.1, z96.2.2.2.2.2.2.2.1, z96.2.2.2.2.2.2.2.2, row))
def f_X7_turned_28 (R_X7_turned : Int32 → (Nat → Int32) → (Nat → Int32) → (Nat → Int32) → (Nat → Int32) → (Nat → Int32) → (Nat → Int32) → (Nat → Int32) → (Nat → Int64) → Int32 → Option (Int32 × (Int32) × (Nat → Int32) × (Nat → Int32) × (Nat → Int32) × (Nat → Int32) × (Nat → Int32) × (Nat → Int32) × (Nat → Int32) × (Nat → Int64))) (N : Nat) : Nat → Int32 → (Nat → Int32) → (Nat → Int32) → (Nat → Int32) → (Nat → Int32) → (Nat → Int32) → (Nat → Int32) → (Nat → Int32) → (Nat → Int64) → Int32 → Int32 → Int32 → Option (Int32 × (Int32) × (Nat → Int32) × (Nat → Int32) × (Nat → Int32) × (Nat → Int32) × (Nat → Int32) × (Nat → Int32) × (Nat → Int32) × (Nat → Int64))
  | 0 => fun _ _ _ _ _ _ _ _ _ _ _ _ => none
  | n + 1 => fun used kind left_ right_ many bits rows table row y1 y2 y3 => ifb (9 ≤ y3) (ifb (2 ≤ y2) (f_X7_turned_95 R_X7_turned N used kind left_ right_ many bits rows table row 2 (5 - y2)) (f_X7_turned_95 R_X7_turned N used kind left_ right_ many bits rows table row 2 (1 - y2))) (ifb (2 ≤ y2) (ix ((9 * y1) + y3) 216000 (f_X7_turned_72 R_X7_turned (f_X7_turned_28 R_X7_turned N n) N used kind left_ right_ many bits rows table row y1 y2 y3 y3 ((-(rows ((9 * y1) + y3).toNatClampNeg)).toInt64))) (ix ((9 * y1) + y3) 216000 (f_X7_turned_72 R_X7_turned (f_X7_turned_28 R_X7_turned N n) N used kind left_ right_ many bits rows table row y1 y2 y3 y3 ((rows ((9 * y1) + y3).toNatClampNeg).toInt64))))
def f_X7_turned_178 (R_X7_turned : Int32 → (Nat → Int32) → (Nat → Int32) → (Nat → Int32) → (Nat → Int32) → (Nat → Int32) → (Nat → Int32) → (Nat → Int32) → (Nat → Int64) → Int32 → Option (Int32 × (Int32) × (Nat → Int32) × (Nat → Int32) × (Nat → Int32) × (Nat → Int32) × (Nat → Int32) × (Nat → Int32) × (Nat → Int32) × (Nat → Int64))) (N : Nat) (used : Int32) (kind : Nat → Int32) (left_ : Nat → Int32) (right_ : Nat → Int32) (many : Nat → Int32) (bits : Nat → Int32) (rows : Nat → Int32) (table : Nat → Int32) (row : Nat → Int64) (y2 : Int32) (y3 : Int32) (s1 : Int32) : Option (Int32 × (Int32) × (Nat → Int32) × (Nat → Int32) × (Nat → Int32) × (Nat → Int32) × (Nat → Int32) × (Nat → Int32) × (Nat → Int32) × (Nat → Int64)) := (f_X7_both N used kind left_ right_ many bits rows table row s1 y2 y3).bind (fun z180 => some (z180.1, z180.2.1, z180.2.2.1, z180.2.2.2.1, z180.2.2.2.2.1, z180.2.2.2.2.2.1, z180.2.2.2.2.2.2.1, z180.2.2.2.2.2.2.2.1, z180.2.2.2.2.2.2.2.2, row))
def F_X7_turned (R_X7_turned : Int32 → (Nat → Int32) → (Nat → Int32) → (Nat → Int32) → (Nat → Int32) → (Nat → Int32) → (Nat → Int32) → (Nat → Int32) → (Nat → Int64) → Int32 → Option (Int32 × (Int32) × (Nat → Int32) × (Nat → Int32) × (Nat → Int32) × (Nat → Int32) × (Nat → Int32) × (Nat → Int32) × (Nat → Int32) × (Nat → Int64))) (N : Nat) (used : Int32) (kind : Nat → Int32) (left_ : Nat → Int32) (right_ : Nat → Int32) (many : Nat → Int32) (bits : Nat → Int32) (rows : Nat → Int32) (table : Nat → Int32) (row : Nat → Int64) (x1 : Int32) : Option (Int32 × (Int32) × (Nat → Int32) × (Nat → Int32) × (Nat → Int32) × (Nat → Int32) × (Nat → Int32) × (Nat → Int32) × (Nat → Int32) × (Nat → Int64)) := ifb (2 ≤ x1) (ix x1 24000 (ifb ((kind x1.toNatClampNeg) = 2) (ix x1 24000 (f_X7_turned_28 R_X7_turned N N used kind left_ right_ many bits rows table row x1 (left_ x1.toNatClampNeg) 0)) (ix x1 24000 (ifb ((kind x1.toNatClampNeg) < 5) (ix x1 24000 ((R_X7_turned used kind left_ right_ many bits rows table row (left_ x1.toNatClampNeg)).bind (fun z147 => ix x1 24000 ((R_X7_turned z147.2.1 z147.2.2.1 z147.2.2.2.1 z147.2.2.2.2.1 z147.2.2.2.2.2.1 z147.2.2.2.2.2.2.1 z147.2.2.2.2.2.2.2.1 z147.2.2.2.2.2.2.2.2.1 z147.2.2.2.2.2.2.2.2.2 (z147.2.2.2.2.1 x1.toNatClampNeg)).bind (fun z158 => ix x1 24000 (ifb ((z158.2.2.1 x1.toNatClampNeg) = 4) (f_X7_turned_178 R_X7_turned N z158.2.1 z158.2.2.1 z158.2.2.2.1 z158.2.2.2.2.1 z158.2.2.2.2.2.1 z158.2.2.2.2.2.2.1 z158.2.2.2.2.2.2.2.1 z158.2.2.2.2.2.2.2.2.1 z158.2.2.2.2.2.2.2.2.2 z147.1 z158.1 1) (f_X7_turned_178 R_X7_turned N z158.2.1 z158.2.2.1 z158.2.2.2.1 z158.2.2.2.2.1 z158.2.2.2.2.2.1 z158.2.2.2.2.2.2.1 z158.2.2.2.2.2.2.2.1 z158.2.2.2.2.2.2.2.2.1 z158.2.2.2.2.2.2.2.2.2 z147.1 z158.1 0))))))) (ix x1 24000 (ix x1 24000 (ix x1 24000 ((R_X7_turned used kind left_ right_ many bits rows table row (right_ x1.toNatClampNeg)).bind (fun z133 => (f_X7_place N z133.2.1 z133.2.2.1 z133.2.2.2.1 z133.2.2.2.2.1 z133.2.2.2.2.2.1 z133.2.2.2.2.2.2.1 z133.2.2.2.2.2.2.2.1 z133.2.2.2.2.2.2.2.2.1 z133.2.2.2.2.2.2.2.2.2 (11 - (kind x1.toNatClampNeg)) (left_ x1.toNatClampNeg) z133.1).bind (fun z136 => some (z136.1, z136.2.1, z136.2.2.1, z136.2.2.2.1, z136.2.2.2.2.1, z136.2.2.2.2.2.1, z136.2.2.2.2.2.2.1, z136.2.2.2.2.2.2.2.1, z136.2.2.2.2.2.2.2.2, z133.2.2.2.2.2.2.2.2.2))))))))))) (some (1 - x1, used, kind, left_, right_, many, bits, rows, table, row))
variable {p : Program} {l : Launch} {e : Env} {s : State} {m : MethodId} {below : List Frame} {meth : Method} {c : Code} {args : Array Value} {x0 : Cond} {D : va_G} {cI cJ cB : ClassId} {sz N : Nat} {ws0 : va_W} {a0 a_roots a_moved a_text a_out a_above a_below a_sum a_point a_pointRows a_pointSorts a_kind a_left a_right a_many a_bits a_rows a_table a_row : Nat} {thrown : Int32} {rooted : Int32} {size : Int32} {outSize : Int32} {points : Int32} {takenOut : Int32} {great : Int32} {at_ : Int32} {fault : Int32} {open_ : Int32} {wrong : Int32} {by_ : Int64} {sort : Int32} {variable_ : Int32} {pointCount : Int32} {z : Int32 × (Int32) × (Nat → Int32) × (Nat → Int32) × (Nat → Int32) × (Nat → Int32) × (Nat → Int32) × (Nat → Int32) × (Nat → Int32) × (Nat → Int64)} {d : Nat} {R_X7_turned : Int32 → (Nat → Int32) → (Nat → Int32) → (Nat → Int32) → (Nat → Int32) → (Nat → Int32) → (Nat → Int32) → (Nat → Int32) → (Nat → Int64) → Int32 → Option (Int32 × (Int32) × (Nat → Int32) × (Nat → Int32) × (Nat → Int32) × (Nat → Int32) × (Nat → Int32) × (Nat → Int32) × (Nat → Int32) × (Nat → Int64))}
set_option maxHeartbeats 4000000 in
set_option maxRecDepth 100000 in
theorem w_X7_turned_72 (CX : Cx p m c cX7_turned 4 s args x0 RX7 meth (some .int)) (hK : va_K D vwCl (ty0 cI cJ cB) s) (hsz : s.heap.size = sz) (ih_X7_turned : CP_X7_turned l D cI cJ cB (rmg_turned d) R_X7_turned) {K28 : Int32 → (Nat → Int32) → (Nat → Int32) → (Nat → Int32) → (Nat → Int32) → (Nat → Int32) → (Nat → Int32) → (Nat → Int32) → (Nat → Int64) → Int32 → Int32 → Int32 → Option (Int32 × (Int32) × (Nat → Int32) × (Nat → Int32) × (Nat → Int32) × (Nat → Int32) × (Nat → Int32) × (Nat → Int32) × (Nat → Int32) × (Nat → Int64))} (hK28 : ∀ (used : Int32) (kind : Nat → Int32) (left_ : Nat → Int32) (right_ : Nat → Int32) (many : Nat → Int32) (bits : Nat → Int32) (rows : Nat → Int32) (table : Nat → Int32) (row : Nat → Int64) (y1 : Int32) (y2 : Int32) (y3 : Int32) (H : Heap) (locs : List Loc) (ls : Array Slot), K28 used kind left_ right_ many bits rows table row y1 y2 y3 = some z → va_P D vwCl (ws_X7_turned cI cJ cB a0 a_roots a_moved a_text a_out a_above a_below a_sum a_point a_pointRows a_pointSorts a_kind a_left a_right a_many a_bits a_rows a_table a_row thrown used rooted size outSize points takenOut great at_ fault open_ wrong by_ sort variable_ pointCount kind left_ right_ many bits rows table row) H → va_D (va_A ws0 sz) (ws_X7_turned cI cJ cB a0 a_roots a_moved a_text a_out a_above a_below a_sum a_point a_pointRows a_pointSorts a_kind a_left a_right a_many a_bits a_rows a_table a_row thrown used rooted size outSize points takenOut great at_ fault open_ wrong by_ sort variable_ pointCount kind left_ right_ many bits rows table row) → va_S (va_A ws0 sz) s.heap H locs → lv_has ls 4 [(0, .ref a0), (1, .int y1), (2, .int y2), (3, .int y3)] → W p l e (rmg_turned (d + 1)) s m args below meth c H locs 0 0 (MQ below (gQ D sz ws0 (ws_X7_turned cI cJ cB a0 a_roots a_moved a_text a_out a_above a_below a_sum a_point a_pointRows a_pointSorts a_kind a_left a_right a_many a_bits a_rows a_table a_row thrown z.2.1 rooted size outSize points takenOut great at_ fault open_ wrong by_ sort variable_ pointCount z.2.2.1 z.2.2.2.1 z.2.2.2.2.1 z.2.2.2.2.2.1 z.2.2.2.2.2.2.1 z.2.2.2.2.2.2.2.1 z.2.2.2.2.2.2.2.2.1 z.2.2.2.2.2.2.2.2.2) (some (.int z.1))) args s 0 0 (va_A ws0 sz)) (F0 m 28 ls [])) : ∀ (used : Int32) (kind : Nat → Int32) (left_ : Nat → Int32) (right_ : Nat → Int32) (many : Nat → Int32) (bits : Nat → Int32) (rows : Nat → Int32) (table : Nat → Int32) (row : Nat → Int64) (y1 : Int32) (y2 : Int32) (y3 : Int32) (s1 : Int32) (s2 : Int64) (H : Heap) (locs : List Loc) (ls : Array Slot), f_X7_turned_72 R_X7_turned K28 N used kind left_ right_ many bits rows table row y1 y2 y3 s1 s2 = some z → va_P D vwCl (ws_X7_turned cI cJ cB a0 a_roots a_moved a_text a_out a_above a_below a_sum a_point a_pointRows a_pointSorts a_kind a_left a_right a_many a_bits a_rows a_table a_row thrown used rooted size outSize points takenOut great at_ fault open_ wrong by_ sort variable_ pointCount kind left_ right_ many bits rows table row) H → va_D (va_A ws0 sz) (ws_X7_turned cI cJ cB a0 a_roots a_moved a_text a_out a_above a_below a_sum a_point a_pointRows a_pointSorts a_kind a_left a_right a_many a_bits a_rows a_table a_row thrown used rooted size outSize points takenOut great at_ fault open_ wrong by_ sort variable_ pointCount kind left_ right_ many bits rows table row) → va_S (va_A ws0 sz) s.heap H locs → lv_has ls 4 [(0, .ref a0), (1, .int y1), (2, .int y2), (3, .int y3)] → W p l e (rmg_turned (d + 1)) s m args below meth c H locs 0 0 (MQ below (gQ D sz ws0 (ws_X7_turned cI cJ cB a0 a_roots a_moved a_text a_out a_above a_below a_sum a_point a_pointRows a_pointSorts a_kind a_left a_right a_many a_bits a_rows a_table a_row thrown z.2.1 rooted size outSize points takenOut great at_ fault open_ wrong by_ sort variable_ pointCount z.2.2.1 z.2.2.2.1 z.2.2.2.2.1 z.2.2.2.2.2.1 z.2.2.2.2.2.2.1 z.2.2.2.2.2.2.2.1 z.2.2.2.2.2.2.2.2.1 z.2.2.2.2.2.2.2.2.2) (some (.int z.1))) args s 0 0 (va_A ws0 sz)) (F0 m 72 ls [.long s2, .int s1, .ref a_row]) := by
  obtain ⟨F, hr, hlk, hNw⟩ := id CX
  have hx := F.1
  have hb := F.2.1
  have hown := F.2.2.2.1
  have hA : ∀ q, s.heap.size ≤ q → va_A ws0 sz q := fun q hq => Or.inr (hsz ▸ hq)
  intro used kind left_ right_ many bits rows table row y1 y2 y3 s1 s2 H locs ls h hP hD hS hl
  unfold f_X7_turned_72 at h
  obtain ⟨hi72, h⟩ := o_ix h
  refine r_last (wn := (ws_X7_turned cI cJ cB a0 a_roots a_moved a_text a_out a_above a_below a_sum a_point a_pointRows a_pointSorts a_kind a_left a_right a_many a_bits a_rows a_table a_row thrown used rooted size outSize points takenOut great at_ fault open_ wrong by_ sort variable_ pointCount kind left_ right_ many bits rows table (vp_updL row s1.toNatClampNeg s2))) F hK hP hD hS 8 1 hi72 rfl rfl rfl dX7_turned_72 (fun H locs hP hD hS => ?_)
  refine lv_iinc (v := y3 + 1) (lv' := [(3, .int (y3 + 1)), (0, .ref a0), (1, .int y1), (2, .int y2)]) hx hb dX7_turned_73 hl (k := 3) rfl rfl (by decide) rfl (fun ls hl => ?_)
  refine lv_goto (tgt := 28) hx hb dX7_turned_76 (by decide) ?_
  exact hK28 used kind left_ right_ many bits rows table (vp_updL row s1.toNatClampNeg s2) y1 y2 (y3 + 1) _ _ _ h hP hD hS (lv_sub hl [1, 2, 3, 0] rfl)
set_option maxHeartbeats 4000000 in
set_option maxRecDepth 100000 in
theorem w_X7_turned_95 (CX : Cx p m c cX7_turned 4 s args x0 RX7 meth (some .int)) (hK : va_K D vwCl (ty0 cI cJ cB) s) (hsz : s.heap.size = sz) (ih_X7_turned : CP_X7_turned l D cI cJ cB (rmg_turned d) R_X7_turned) : ∀ (used : Int32) (kind : Nat → Int32) (left_ : Nat → Int32) (right_ : Nat → Int32) (many : Nat → Int32) (bits : Nat → Int32) (rows : Nat → Int32) (table : Nat → Int32) (row : Nat → Int64) (s1 : Int32) (s2 : Int32) (H : Heap) (locs : List Loc) (ls : Array Slot), f_X7_turned_95 R_X7_turned N used kind left_ right_ many bits rows table row s1 s2 = some z → va_P D vwCl (ws_X7_turned cI cJ cB a0 a_roots a_moved a_text a_out a_above a_below a_sum a_point a_pointRows a_pointSorts a_kind a_left a_right a_many a_bits a_rows a_table a_row thrown used rooted size outSize points takenOut great at_ fault open_ wrong by_ sort variable_ pointCount kind left_ right_ many bits rows table row) H → va_D (va_A ws0 sz) (ws_X7_turned cI cJ cB a0 a_roots a_moved a_text a_out a_above a_below a_sum a_point a_pointRows a_pointSorts a_kind a_left a_right a_many a_bits a_rows a_table a_row thrown used rooted size outSize points takenOut great at_ fault open_ wrong by_ sort variable_ pointCount kind left_ right_ many bits rows table row) → va_S (va_A ws0 sz) s.heap H locs → lv_has ls 4 [] → W p l e (rmg_turned (d + 1)) s m args below meth c H locs 0 0 (MQ below (gQ D sz ws0 (ws_X7_turned cI cJ cB a0 a_roots a_moved a_text a_out a_above a_below a_sum a_point a_pointRows a_pointSorts a_kind a_left a_right a_many a_bits a_rows a_table a_row thrown z.2.1 rooted size outSize points takenOut great at_ fault open_ wrong by_ sort variable_ pointCount z.2.2.1 z.2.2.2.1 z.2.2.2.2.1 z.2.2.2.2.2.1 z.2.2.2.2.2.2.1 z.2.2.2.2.2.2.2.1 z.2.2.2.2.2.2.2.2.1 z.2.2.2.2.2.2.2.2.2) (some (.int z.1))) args s 0 0 (va_A ws0 sz)) (F0 m 95 ls [.int s2, .int s1, .ref a0]) := by
  obtain ⟨F, hr, hlk, hNw⟩ := id CX
  have hx := F.1
  have hb := F.2.1
  have hown := F.2.2.2.1
  have hA : ∀ q, s.heap.size ≤ q → va_A ws0 sz q := fun q hq => Or.inr (hsz ▸ hq)
  intro used kind left_ right_ many bits rows table row s1 s2 H locs ls h hP hD hS hl
  unfold f_X7_turned_95 at h
  refine lv_iconst (v := 0) hx hb dX7_turned_95 (by decide) ?_
  obtain ⟨z96, hz96, h⟩ := o_b h
  refine k_v (wn := (ws_X7_turned cI cJ cB a0 a_roots a_moved a_text a_out a_above a_below a_sum a_point a_pointRows a_pointSorts a_kind a_left a_right a_many a_bits a_rows a_table a_row thrown z96.2.1 rooted size outSize points takenOut great at_ fault open_ wrong by_ sort variable_ pointCount z96.2.2.1 z96.2.2.2.1 z96.2.2.2.2.1 z96.2.2.2.2.2.1 z96.2.2.2.2.2.2.1 z96.2.2.2.2.2.2.2.1 z96.2.2.2.2.2.2.2.2 row)) (As := [.int s1, .int s2, .int 0]) (rest := []) F hNw hK hP hD hS hA (c_X7_place l D cI cJ cB a0 a_roots a_moved a_text a_out a_above a_below a_sum a_point a_pointRows a_pointSorts a_kind a_left a_right a_many a_bits a_rows a_table a_row _ thrown used rooted size outSize points takenOut great at_ fault open_ wrong by_ sort variable_ pointCount kind left_ right_ many bits rows table row s1 s2 0 N hz96) wm_1082 cv_X7_place [0, 1, 2, 3, 4, 5, 6, 7, 8] [] [0, 1, 2, 3, 4, 5, 6, 7, 8] (⟨rfl, rfl, rfl, by decide, rfl⟩ : Ix [0, 1, 2, 3, 4, 5, 6, 7, 8] [] [0, 1, 2, 3, 4, 5, 6, 7, 8] 9) rfl (hN_of 0 9 (by decide +kernel) rfl (by decide +kernel) rfl) rfl rfl rfl rfl ⟨rfl, rfl, by show 1 + 1 ≤ 3 + (d + 1); omega, by show 8 + (9 + 11) + 27 ≤ 79 + 23 * (d + 1); omega⟩ hl.1 rfl (Nat.le_of_ble_eq_true rfl) ⟨Nat.zero_le _, Nat.zero_le _⟩ dX7_turned_96 (fun H locs hP hD hS => ?_)
  obtain rfl := Option.some.inj h
  exact r_ret (v := z96.1) F hr hlk rfl dX7_turned_99 hsz hP hD hS
set_option maxHeartbeats 4000000 in
set_option maxRecDepth 100000 in
theorem w_X7_turned_28 (CX : Cx p m c cX7_turned 4 s args x0 RX7 meth (some .int)) (hK : va_K D vwCl (ty0 cI cJ cB) s) (hsz : s.heap.size = sz) (ih_X7_turned : CP_X7_turned l D cI cJ cB (rmg_turned d) R_X7_turned) : ∀ (n : Nat), ∀ (used : Int32) (kind : Nat → Int32) (left_ : Nat → Int32) (right_ : Nat → Int32) (many : Nat → Int32) (bits : Nat → Int32) (rows : Nat → Int32) (table : Nat → Int32) (row : Nat → Int64) (y1 : Int32) (y2 : Int32) (y3 : Int32) (H : Heap) (locs : List Loc) (ls : Array Slot), f_X7_turned_28 R_X7_turned N n used kind left_ right_ many bits rows table row y1 y2 y3 = some z → va_P D vwCl (ws_X7_turned cI cJ cB a0 a_roots a_moved a_text a_out a_above a_below a_sum a_point a_pointRows a_pointSorts a_kind a_left a_right a_many a_bits a_rows a_table a_row thrown used rooted size outSize points takenOut great at_ fault open_ wrong by_ sort variable_ pointCount kind left_ right_ many bits rows table row) H → va_D (va_A ws0 sz) (ws_X7_turned cI cJ cB a0 a_roots a_moved a_text a_out a_above a_below a_sum a_point a_pointRows a_pointSorts a_kind a_left a_right a_many a_bits a_rows a_table a_row thrown used rooted size outSize points takenOut great at_ fault open_ wrong by_ sort variable_ pointCount kind left_ right_ many bits rows table row) → va_S (va_A ws0 sz) s.heap H locs → lv_has ls 4 [(0, .ref a0), (1, .int y1), (2, .int y2), (3, .int y3)] → W p l e (rmg_turned (d + 1)) s m args below meth c H locs 0 0 (MQ below (gQ D sz ws0 (ws_X7_turned cI cJ cB a0 a_roots a_moved a_text a_out a_above a_below a_sum a_point a_pointRows a_pointSorts a_kind a_left a_right a_many a_bits a_rows a_table a_row thrown z.2.1 rooted size outSize points takenOut great at_ fault open_ wrong by_ sort variable_ pointCount z.2.2.1 z.2.2.2.1 z.2.2.2.2.1 z.2.2.2.2.2.1 z.2.2.2.2.2.2.1 z.2.2.2.2.2.2.2.1 z.2.2.2.2.2.2.2.2.1 z.2.2.2.2.2.2.2.2.2) (some (.int z.1))) args s 0 0 (va_A ws0 sz)) (F0 m 28 ls []) := by
  obtain ⟨F, hr, hlk, hNw⟩ := id CX
  have hx := F.1
  have hb := F.2.1
  have hown := F.2.2.2.1
  have hA : ∀ q, s.heap.size ≤ q → va_A ws0 sz q := fun q hq => Or.inr (hsz ▸ hq)
  intro n
  induction n with
  | zero =>
    intro used kind left_ right_ many bits rows table row y1 y2 y3 H locs ls h
    cases h
  | succ n ih =>
    intro used kind left_ right_ many bits rows table row y1 y2 y3 H locs ls h hP hD hS hl
    unfold f_X7_turned_28 at h
    refine lv_iload_n hx hb dX7_turned_28 rfl (lv_at hl 3 rfl) ?_
    refine lv_bipush (v := 9) hx hb dX7_turned_29 (by decide) ?_
    refine lv_icmp_ge (tgt := 79) hx hb dX7_turned_31 (by decide) (fun c31 => ?_) (fun c31 => ?_)
    · have h := o_t c31 h
      refine lv_aload_n hx hb dX7_turned_79 rfl (lv_at hl 0 rfl) ?_
      refine lv_iconst (v := 2) hx hb dX7_turned_80 (by decide) ?_
      refine lv_iload_n hx hb dX7_turned_81 rfl (lv_at hl 2 rfl) ?_
      refine lv_iconst (v := 2) hx hb dX7_turned_82 (by decide) ?_
      refine lv_icmp_ge (tgt := 92) hx hb dX7_turned_83 (by decide) (fun c83 => ?_) (fun c83 => ?_)
      · have h := o_t c83 h
        refine lv_iconst (v := 5) hx hb dX7_turned_92 (by decide) ?_
        refine lv_iload_n hx hb dX7_turned_93 rfl (lv_at hl 2 rfl) ?_
        refine lv_isub hx hb dX7_turned_94 ?_
        exact w_X7_turned_95 CX hK hsz (ih_X7_turned := ih_X7_turned) used kind left_ right_ many bits rows table row 2 (5 - y2) _ _ _ h hP hD hS (lv_sub hl [] rfl)
      · have h := o_f c83 h
        refine lv_iconst (v := 1) hx hb dX7_turned_86 (by decide) ?_
        refine lv_iload_n hx hb dX7_turned_87 rfl (lv_at hl 2 rfl) ?_
        refine lv_isub hx hb dX7_turned_88 ?_
        refine lv_goto (tgt := 95) hx hb dX7_turned_89 (by decide) ?_
        exact w_X7_turned_95 CX hK hsz (ih_X7_turned := ih_X7_turned) used kind left_ right_ many bits rows table row 2 (1 - y2) _ _ _ h hP hD hS (lv_sub hl [] rfl)
    · have h := o_f c31 h
      refine lv_aload_n hx hb dX7_turned_34 rfl (lv_at hl 0 rfl) ?_
      refine r_get F hK hP 0 21 rfl inW_X7 wm_1113 rfl (by decide) rfl dX7_turned_35 ?_
      refine lv_iload_n hx hb dX7_turned_38 rfl (lv_at hl 3 rfl) ?_
      refine lv_iload_n hx hb dX7_turned_39 rfl (lv_at hl 2 rfl) ?_
      refine lv_iconst (v := 2) hx hb dX7_turned_40 (by decide) ?_
      refine lv_icmp_ge (tgt := 59) hx hb dX7_turned_41 (by decide) (fun c41 => ?_) (fun c41 => ?_)
      · have h := o_t c41 h
        refine lv_aload_n hx hb dX7_turned_59 rfl (lv_at hl 0 rfl) ?_
        refine r_get F hK hP 0 6 rfl inW_X7 wm_1098 rfl (by decide) rfl dX7_turned_60 ?_
        refine lv_bipush (v := 9) hx hb dX7_turned_63 (by decide) ?_
        refine lv_iload_n hx hb dX7_turned_65 rfl (lv_at hl 1 rfl) ?_
        refine lv_imul hx hb dX7_turned_66 ?_
        refine lv_iload_n hx hb dX7_turned_67 rfl (lv_at hl 3 rfl) ?_
        refine lv_iadd hx hb dX7_turned_68 ?_
        obtain ⟨hi69, h⟩ := o_ix h
        refine va_iald hx hb hK hP 6 0 rfl rfl hi69 dX7_turned_69 ?_
        refine lv_ineg hx hb dX7_turned_70 ?_
        refine lv_i2l hx hb dX7_turned_71 rfl ?_
        exact w_X7_turned_72 CX hK hsz (ih_X7_turned := ih_X7_turned) (hK28 := ih) used kind left_ right_ many bits rows table row y1 y2 y3 y3 ((-(rows ((9 * y1) + y3).toNatClampNeg)).toInt64) _ _ _ h hP hD hS (lv_sub hl [0, 1, 2, 3] rfl)
      · have h := o_f c41 h
        refine lv_aload_n hx hb dX7_turned_44 rfl (lv_at hl 0 rfl) ?_
        refine r_get F hK hP 0 6 rfl inW_X7 wm_1098 rfl (by decide) rfl dX7_turned_45 ?_
        refine lv_bipush (v := 9) hx hb dX7_turned_48 (by decide) ?_
        refine lv_iload_n hx hb dX7_turned_50 rfl (lv_at hl 1 rfl) ?_
        refine lv_imul hx hb dX7_turned_51 ?_
        refine lv_iload_n hx hb dX7_turned_52 rfl (lv_at hl 3 rfl) ?_
        refine lv_iadd hx hb dX7_turned_53 ?_
        obtain ⟨hi54, h⟩ := o_ix h
        refine va_iald hx hb hK hP 6 0 rfl rfl hi54 dX7_turned_54 ?_
        refine lv_i2l hx hb dX7_turned_55 rfl ?_
        refine lv_goto (tgt := 72) hx hb dX7_turned_56 (by decide) ?_
        exact w_X7_turned_72 CX hK hsz (ih_X7_turned := ih_X7_turned) (hK28 := ih) used kind left_ right_ many bits rows table row y1 y2 y3 y3 ((rows ((9 * y1) + y3).toNatClampNeg).toInt64) _ _ _ h hP hD hS (lv_sub hl [0, 1, 2, 3] rfl)
set_option maxHeartbeats 4000000 in
set_option maxRecDepth 100000 in
theorem w_X7_turned_178 (CX : Cx p m c cX7_turned 4 s args x0 RX7 meth (some .int)) (hK : va_K D vwCl (ty0 cI cJ cB) s) (hsz : s.heap.size = sz) (ih_X7_turned : CP_X7_turned l D cI cJ cB (rmg_turned d) R_X7_turned) : ∀ (used : Int32) (kind : Nat → Int32) (left_ : Nat → Int32) (right_ : Nat → Int32) (many : Nat → Int32) (bits : Nat → Int32) (rows : Nat → Int32) (table : Nat → Int32) (row : Nat → Int64) (y2 : Int32) (y3 : Int32) (s1 : Int32) (H : Heap) (locs : List Loc) (ls : Array Slot), f_X7_turned_178 R_X7_turned N used kind left_ right_ many bits rows table row y2 y3 s1 = some z → va_P D vwCl (ws_X7_turned cI cJ cB a0 a_roots a_moved a_text a_out a_above a_below a_sum a_point a_pointRows a_pointSorts a_kind a_left a_right a_many a_bits a_rows a_table a_row thrown used rooted size outSize points takenOut great at_ fault open_ wrong by_ sort variable_ pointCount kind left_ right_ many bits rows table row) H → va_D (va_A ws0 sz) (ws_X7_turned cI cJ cB a0 a_roots a_moved a_text a_out a_above a_below a_sum a_point a_pointRows a_pointSorts a_kind a_left a_right a_many a_bits a_rows a_table a_row thrown used rooted size outSize points takenOut great at_ fault open_ wrong by_ sort variable_ pointCount kind left_ right_ many bits rows table row) → va_S (va_A ws0 sz) s.heap H locs → lv_has ls 4 [(2, .int y2), (3, .int y3)] → W p l e (rmg_turned (d + 1)) s m args below meth c H locs 0 0 (MQ below (gQ D sz ws0 (ws_X7_turned cI cJ cB a0 a_roots a_moved a_text a_out a_above a_below a_sum a_point a_pointRows a_pointSorts a_kind a_left a_right a_many a_bits a_rows a_table a_row thrown z.2.1 rooted size outSize points takenOut great at_ fault open_ wrong by_ sort variable_ pointCount z.2.2.1 z.2.2.2.1 z.2.2.2.2.1 z.2.2.2.2.2.1 z.2.2.2.2.2.2.1 z.2.2.2.2.2.2.2.1 z.2.2.2.2.2.2.2.2.1 z.2.2.2.2.2.2.2.2.2) (some (.int z.1))) args s 0 0 (va_A ws0 sz)) (F0 m 178 ls [.int s1, .ref a0]) := by
  obtain ⟨F, hr, hlk, hNw⟩ := id CX
  have hx := F.1
  have hb := F.2.1
  have hown := F.2.2.2.1
  have hA : ∀ q, s.heap.size ≤ q → va_A ws0 sz q := fun q hq => Or.inr (hsz ▸ hq)
  intro used kind left_ right_ many bits rows table row y2 y3 s1 H locs ls h hP hD hS hl
  unfold f_X7_turned_178 at h
  refine lv_iload_n hx hb dX7_turned_178 rfl (lv_at hl 0 rfl) ?_
  refine lv_iload_n hx hb dX7_turned_179 rfl (lv_at hl 1 rfl) ?_
  obtain ⟨z180, hz180, h⟩ := o_b h
  refine k_v (wn := (ws_X7_turned cI cJ cB a0 a_roots a_moved a_text a_out a_above a_below a_sum a_point a_pointRows a_pointSorts a_kind a_left a_right a_many a_bits a_rows a_table a_row thrown z180.2.1 rooted size outSize points takenOut great at_ fault open_ wrong by_ sort variable_ pointCount z180.2.2.1 z180.2.2.2.1 z180.2.2.2.2.1 z180.2.2.2.2.2.1 z180.2.2.2.2.2.2.1 z180.2.2.2.2.2.2.2.1 z180.2.2.2.2.2.2.2.2 row)) (As := [.int s1, .int y2, .int y3]) (rest := []) F hNw hK hP hD hS hA (c_X7_both l D cI cJ cB a0 a_roots a_moved a_text a_out a_above a_below a_sum a_point a_pointRows a_pointSorts a_kind a_left a_right a_many a_bits a_rows a_table a_row _ thrown used rooted size outSize points takenOut great at_ fault open_ wrong by_ sort variable_ pointCount kind left_ right_ many bits rows table row s1 y2 y3 N hz180) wm_1270 cv_X7_both [0, 1, 2, 3, 4, 5, 6, 7, 8] [] [0, 1, 2, 3, 4, 5, 6, 7, 8] (⟨rfl, rfl, rfl, by decide, rfl⟩ : Ix [0, 1, 2, 3, 4, 5, 6, 7, 8] [] [0, 1, 2, 3, 4, 5, 6, 7, 8] 9) rfl (hN_of 0 9 (by decide +kernel) rfl (by decide +kernel) rfl) rfl rfl rfl rfl ⟨rfl, rfl, by show 2 + 1 ≤ 3 + (d + 1); omega, by show 8 + (5 + 11) + 55 ≤ 79 + 23 * (d + 1); omega⟩ hl.1 rfl (Nat.le_of_ble_eq_true rfl) ⟨Nat.zero_le _, Nat.zero_le _⟩ dX7_turned_180 (fun H locs hP hD hS => ?_)
  obtain rfl := Option.some.inj h
  exact r_ret (v := z180.1) F hr hlk rfl dX7_turned_183 hsz hP hD hS
end G_X7_turned
set_option maxHeartbeats 4000000 in
set_option maxRecDepth 100000 in
theorem cF_X7_turned (l : Launch) (D : va_G) (cI cJ cB : ClassId) (N d : Nat) {R_X7_turned : Int32 → (Nat → Int32) → (Nat → Int32) → (Nat → Int32) → (Nat → Int32) → (Nat → Int32) → (Nat → Int32) → (Nat → Int32) → (Nat → Int64) → Int32 → Option (Int32 × (Int32) × (Nat → Int32) × (Nat → Int32) × (Nat → Int32) × (Nat → Int32) × (Nat → Int32) × (Nat → Int32) × (Nat → Int32) × (Nat → Int64))} (ih_X7_turned : CP_X7_turned l D cI cJ cB (rmg_turned d) R_X7_turned) : CP_X7_turned l D cI cJ cB (rmg_turned (d + 1)) (F_X7_turned R_X7_turned N) := by
  intro a0 a_roots a_moved a_text a_out a_above a_below a_sum a_point a_pointRows a_pointSorts a_kind a_left a_right a_many a_bits a_rows a_table a_row sz thrown used rooted size outSize points takenOut great at_ fault open_ wrong by_ sort variable_ pointCount kind left_ right_ many bits rows table row x1 z h
  refine Mg.of (by decide) (Nat.le_of_ble_eq_true rfl) ?_
  intro p e s m below meth c CX hK hsz hP hD ls hl
  have CX : Cx p m c cX7_turned 4 s ([.ref a0, .int x1] : List Value).toArray (Cond.code yX7_turned cX7_turned 4 (some .int)) RX7 meth (some .int) := CX
  obtain ⟨F, hr, hlk, hNw⟩ := id CX
  have hx := F.1
  have hb := F.2.1
  have hown := F.2.2.2.1
  have hl : lv_has ls 4 [(0, .ref a0), (1, .int x1)] := hl
  have hS : va_S (va_A (ws_X7_turned cI cJ cB a0 a_roots a_moved a_text a_out a_above a_below a_sum a_point a_pointRows a_pointSorts a_kind a_left a_right a_many a_bits a_rows a_table a_row thrown used rooted size outSize points takenOut great at_ fault open_ wrong by_ sort variable_ pointCount kind left_ right_ many bits rows table row) sz) s.heap s.heap [] := va_S.rf
  have hA : ∀ q, s.heap.size ≤ q → va_A (ws_X7_turned cI cJ cB a0 a_roots a_moved a_text a_out a_above a_below a_sum a_point a_pointRows a_pointSorts a_kind a_left a_right a_many a_bits a_rows a_table a_row thrown used rooted size outSize points takenOut great at_ fault open_ wrong by_ sort variable_ pointCount kind left_ right_ many bits rows table row) sz q := fun q hq => Or.inr (hsz ▸ hq)
  unfold F_X7_turned at h
  refine lv_iload_n hx hb dX7_turned_0 rfl (lv_at hl 1 rfl) ?_
  refine lv_iconst (v := 2) hx hb dX7_turned_1 (by decide) ?_
  refine lv_icmp_ge (tgt := 9) hx hb dX7_turned_2 (by decide) (fun c2 => ?_) (fun c2 => ?_)
  · have h := o_t c2 h
    refine lv_aload_n hx hb dX7_turned_9 rfl (lv_at hl 0 rfl) ?_
    refine r_get F hK hP 0 1 rfl inW_X7 wm_1093 rfl (by decide) rfl dX7_turned_10 ?_
    refine lv_iload_n hx hb dX7_turned_13 rfl (lv_at hl 1 rfl) ?_
    obtain ⟨hi14, h⟩ := o_ix h
    refine va_iald hx hb hK hP 1 0 rfl rfl hi14 dX7_turned_14 ?_
    refine lv_iconst (v := 2) hx hb dX7_turned_15 (by decide) ?_
    refine lv_icmp_ne (tgt := 100) hx hb dX7_turned_16 (by decide) (fun c16 => ?_) (fun c16 => ?_)
    · have h := o_f c16 h
      refine lv_aload_n hx hb dX7_turned_100 rfl (lv_at hl 0 rfl) ?_
      refine r_get F hK hP 0 1 rfl inW_X7 wm_1093 rfl (by decide) rfl dX7_turned_101 ?_
      refine lv_iload_n hx hb dX7_turned_104 rfl (lv_at hl 1 rfl) ?_
      obtain ⟨hi105, h⟩ := o_ix h
      refine va_iald hx hb hK hP 1 0 rfl rfl hi105 dX7_turned_105 ?_
      refine lv_iconst (v := 5) hx hb dX7_turned_106 (by decide) ?_
      refine lv_icmp_lt (tgt := 140) hx hb dX7_turned_107 (by decide) (fun c107 => ?_) (fun c107 => ?_)
      · have h := o_t c107 h
        refine lv_aload_n hx hb dX7_turned_140 rfl (lv_at hl 0 rfl) ?_
        refine lv_aload_n hx hb dX7_turned_141 rfl (lv_at hl 0 rfl) ?_
        refine r_get F hK hP 0 2 rfl inW_X7 wm_1094 rfl (by decide) rfl dX7_turned_142 ?_
        refine lv_iload_n hx hb dX7_turned_145 rfl (lv_at hl 1 rfl) ?_
        obtain ⟨hi146, h⟩ := o_ix h
        refine va_iald hx hb hK hP 2 0 rfl rfl hi146 dX7_turned_146 ?_
        obtain ⟨z147, hz147, h⟩ := o_b h
        refine k_v (wn := (ws_X7_turned cI cJ cB a0 a_roots a_moved a_text a_out a_above a_below a_sum a_point a_pointRows a_pointSorts a_kind a_left a_right a_many a_bits a_rows a_table a_row thrown z147.2.1 rooted size outSize points takenOut great at_ fault open_ wrong by_ sort variable_ pointCount z147.2.2.1 z147.2.2.2.1 z147.2.2.2.2.1 z147.2.2.2.2.2.1 z147.2.2.2.2.2.2.1 z147.2.2.2.2.2.2.2.1 z147.2.2.2.2.2.2.2.2.1 z147.2.2.2.2.2.2.2.2.2)) (As := [.int (left_ x1.toNatClampNeg)]) (rest := []) F hNw hK hP hD hS hA (ih_X7_turned a0 a_roots a_moved a_text a_out a_above a_below a_sum a_point a_pointRows a_pointSorts a_kind a_left a_right a_many a_bits a_rows a_table a_row _ thrown used rooted size outSize points takenOut great at_ fault open_ wrong by_ sort variable_ pointCount kind left_ right_ many bits rows table row (left_ x1.toNatClampNeg) hz147) wm_1266 cv_X7_turned [0, 1, 2, 3, 4, 5, 6, 7, 8] [] [0, 1, 2, 3, 4, 5, 6, 7, 8] (⟨rfl, rfl, rfl, by decide, rfl⟩ : Ix [0, 1, 2, 3, 4, 5, 6, 7, 8] [] [0, 1, 2, 3, 4, 5, 6, 7, 8] 9) rfl (hN_of 0 9 (by decide +kernel) rfl (by decide +kernel) rfl) rfl rfl rfl rfl ⟨rfl, rfl, by show 3 + d + 1 ≤ 3 + (d + 1); omega, by show 8 + (4 + 11) + (79 + 23 * d) ≤ 79 + 23 * (d + 1); omega⟩ hl.1 rfl (Nat.le_of_ble_eq_true rfl) ⟨Nat.zero_le _, Nat.zero_le _⟩ dX7_turned_147 (fun H locs hP hD hS => ?_)
        refine lv_istore_n (lv' := [(2, .int z147.1), (0, .ref a0), (1, .int x1)]) hx hb dX7_turned_150 rfl hl (by decide) rfl (fun ls hl => ?_)
        refine lv_aload_n hx hb dX7_turned_151 rfl (lv_at hl 1 rfl) ?_
        refine lv_aload_n hx hb dX7_turned_152 rfl (lv_at hl 1 rfl) ?_
        refine r_get F hK hP 0 3 rfl inW_X7 wm_1095 rfl (by decide) rfl dX7_turned_153 ?_
        refine lv_iload_n hx hb dX7_turned_156 rfl (lv_at hl 2 rfl) ?_
        obtain ⟨hi157, h⟩ := o_ix h
        refine va_iald hx hb hK hP 3 0 rfl rfl hi157 dX7_turned_157 ?_
        obtain ⟨z158, hz158, h⟩ := o_b h
        refine k_v (wn := (ws_X7_turned cI cJ cB a0 a_roots a_moved a_text a_out a_above a_below a_sum a_point a_pointRows a_pointSorts a_kind a_left a_right a_many a_bits a_rows a_table a_row thrown z158.2.1 rooted size outSize points takenOut great at_ fault open_ wrong by_ sort variable_ pointCount z158.2.2.1 z158.2.2.2.1 z158.2.2.2.2.1 z158.2.2.2.2.2.1 z158.2.2.2.2.2.2.1 z158.2.2.2.2.2.2.2.1 z158.2.2.2.2.2.2.2.2.1 z158.2.2.2.2.2.2.2.2.2)) (As := [.int (z147.2.2.2.2.1 x1.toNatClampNeg)]) (rest := []) F hNw hK hP hD hS hA (ih_X7_turned a0 a_roots a_moved a_text a_out a_above a_below a_sum a_point a_pointRows a_pointSorts a_kind a_left a_right a_many a_bits a_rows a_table a_row _ thrown z147.2.1 rooted size outSize points takenOut great at_ fault open_ wrong by_ sort variable_ pointCount z147.2.2.1 z147.2.2.2.1 z147.2.2.2.2.1 z147.2.2.2.2.2.1 z147.2.2.2.2.2.2.1 z147.2.2.2.2.2.2.2.1 z147.2.2.2.2.2.2.2.2.1 z147.2.2.2.2.2.2.2.2.2 (z147.2.2.2.2.1 x1.toNatClampNeg) hz158) wm_1266 cv_X7_turned [0, 1, 2, 3, 4, 5, 6, 7, 8] [] [0, 1, 2, 3, 4, 5, 6, 7, 8] (⟨rfl, rfl, rfl, by decide, rfl⟩ : Ix [0, 1, 2, 3, 4, 5, 6, 7, 8] [] [0, 1, 2, 3, 4, 5, 6, 7, 8] 9) rfl (hN_of 0 9 (by decide +kernel) rfl (by decide +kernel) rfl) rfl rfl rfl rfl ⟨rfl, rfl, by show 3 + d + 1 ≤ 3 + (d + 1); omega, by show 8 + (4 + 11) + (79 + 23 * d) ≤ 79 + 23 * (d + 1); omega⟩ hl.1 rfl (Nat.le_of_ble_eq_true rfl) ⟨Nat.zero_le _, Nat.zero_le _⟩ dX7_turned_158 (fun H locs hP hD hS => ?_)
        refine lv_istore_n (lv' := [(3, .int z158.1), (2, .int z147.1), (0, .ref a0), (1, .int x1)]) hx hb dX7_turned_161 rfl hl (by decide) rfl (fun ls hl => ?_)
        refine lv_aload_n hx hb dX7_turned_162 rfl (lv_at hl 2 rfl) ?_
        refine lv_aload_n hx hb dX7_turned_163 rfl (lv_at hl 2 rfl) ?_
        refine r_get F hK hP 0 1 rfl inW_X7 wm_1093 rfl (by decide) rfl dX7_turned_164 ?_
        refine lv_iload_n hx hb dX7_turned_167 rfl (lv_at hl 3 rfl) ?_
        obtain ⟨hi168, h⟩ := o_ix h
        refine va_iald hx hb hK hP 1 0 rfl rfl hi168 dX7_turned_168 ?_
        refine lv_iconst (v := 4) hx hb dX7_turned_169 (by decide) ?_
        refine lv_icmp_ne (tgt := 177) hx hb dX7_turned_170 (by decide) (fun c170 => ?_) (fun c170 => ?_)
        · have h := o_f c170 h
          refine lv_iconst (v := 0) hx hb dX7_turned_177 (by decide) ?_
          exact w_X7_turned_178 CX hK hsz (ih_X7_turned := ih_X7_turned) z158.2.1 z158.2.2.1 z158.2.2.2.1 z158.2.2.2.2.1 z158.2.2.2.2.2.1 z158.2.2.2.2.2.2.1 z158.2.2.2.2.2.2.2.1 z158.2.2.2.2.2.2.2.2.1 z158.2.2.2.2.2.2.2.2.2 z147.1 z158.1 0 _ _ _ h hP hD hS (lv_sub hl [1, 0] rfl)
        · have h := o_t c170 h
          refine lv_iconst (v := 1) hx hb dX7_turned_173 (by decide) ?_
          refine lv_goto (tgt := 178) hx hb dX7_turned_174 (by decide) ?_
          exact w_X7_turned_178 CX hK hsz (ih_X7_turned := ih_X7_turned) z158.2.1 z158.2.2.1 z158.2.2.2.1 z158.2.2.2.2.1 z158.2.2.2.2.2.1 z158.2.2.2.2.2.2.1 z158.2.2.2.2.2.2.2.1 z158.2.2.2.2.2.2.2.2.1 z158.2.2.2.2.2.2.2.2.2 z147.1 z158.1 1 _ _ _ h hP hD hS (lv_sub hl [1, 0] rfl)
      · have h := o_f c107 h
        refine lv_aload_n hx hb dX7_turned_110 rfl (lv_at hl 0 rfl) ?_
        refine lv_bipush (v := 11) hx hb dX7_turned_111 (by decide) ?_
        refine lv_aload_n hx hb dX7_turned_113 rfl (lv_at hl 0 rfl) ?_
        refine r_get F hK hP 0 1 rfl inW_X7 wm_1093 rfl (by decide) rfl dX7_turned_114 ?_
        refine lv_iload_n hx hb dX7_turned_117 rfl (lv_at hl 1 rfl) ?_
        obtain ⟨hi118, h⟩ := o_ix h
        refine va_iald hx hb hK hP 1 0 rfl rfl hi118 dX7_turned_118 ?_
        refine lv_isub hx hb dX7_turned_119 ?_
        refine lv_aload_n hx hb dX7_turned_120 rfl (lv_at hl 0 rfl) ?_
        refine r_get F hK hP 0 2 rfl inW_X7 wm_1094 rfl (by decide) rfl dX7_turned_121 ?_
        refine lv_iload_n hx hb dX7_turned_124 rfl (lv_at hl 1 rfl) ?_
        obtain ⟨hi125, h⟩ := o_ix h
        refine va_iald hx hb hK hP 2 0 rfl rfl hi125 dX7_turned_125 ?_
        refine lv_aload_n hx hb dX7_turned_126 rfl (lv_at hl 0 rfl) ?_
        refine lv_aload_n hx hb dX7_turned_127 rfl (lv_at hl 0 rfl) ?_
        refine r_get F hK hP 0 3 rfl inW_X7 wm_1095 rfl (by decide) rfl dX7_turned_128 ?_
        refine lv_iload_n hx hb dX7_turned_131 rfl (lv_at hl 1 rfl) ?_
        obtain ⟨hi132, h⟩ := o_ix h
        refine va_iald hx hb hK hP 3 0 rfl rfl hi132 dX7_turned_132 ?_
        obtain ⟨z133, hz133, h⟩ := o_b h
        refine k_v (wn := (ws_X7_turned cI cJ cB a0 a_roots a_moved a_text a_out a_above a_below a_sum a_point a_pointRows a_pointSorts a_kind a_left a_right a_many a_bits a_rows a_table a_row thrown z133.2.1 rooted size outSize points takenOut great at_ fault open_ wrong by_ sort variable_ pointCount z133.2.2.1 z133.2.2.2.1 z133.2.2.2.2.1 z133.2.2.2.2.2.1 z133.2.2.2.2.2.2.1 z133.2.2.2.2.2.2.2.1 z133.2.2.2.2.2.2.2.2.1 z133.2.2.2.2.2.2.2.2.2)) (As := [.int (right_ x1.toNatClampNeg)]) (rest := [.int (left_ x1.toNatClampNeg), .int (11 - (kind x1.toNatClampNeg)), .ref a0]) F hNw hK hP hD hS hA (ih_X7_turned a0 a_roots a_moved a_text a_out a_above a_below a_sum a_point a_pointRows a_pointSorts a_kind a_left a_right a_many a_bits a_rows a_table a_row _ thrown used rooted size outSize points takenOut great at_ fault open_ wrong by_ sort variable_ pointCount kind left_ right_ many bits rows table row (right_ x1.toNatClampNeg) hz133) wm_1266 cv_X7_turned [0, 1, 2, 3, 4, 5, 6, 7, 8] [] [0, 1, 2, 3, 4, 5, 6, 7, 8] (⟨rfl, rfl, rfl, by decide, rfl⟩ : Ix [0, 1, 2, 3, 4, 5, 6, 7, 8] [] [0, 1, 2, 3, 4, 5, 6, 7, 8] 9) rfl (hN_of 0 9 (by decide +kernel) rfl (by decide +kernel) rfl) rfl rfl rfl rfl ⟨rfl, rfl, by show 3 + d + 1 ≤ 3 + (d + 1); omega, by show 8 + (4 + 11) + (79 + 23 * d) ≤ 79 + 23 * (d + 1); omega⟩ hl.1 rfl (Nat.le_of_ble_eq_true rfl) ⟨Nat.zero_le _, Nat.zero_le _⟩ dX7_turned_133 (fun H locs hP hD hS => ?_)
        obtain ⟨z136, hz136, h⟩ := o_b h
        refine k_v (wn := (ws_X7_turned cI cJ cB a0 a_roots a_moved a_text a_out a_above a_below a_sum a_point a_pointRows a_pointSorts a_kind a_left a_right a_many a_bits a_rows a_table a_row thrown z136.2.1 rooted size outSize points takenOut great at_ fault open_ wrong by_ sort variable_ pointCount z136.2.2.1 z136.2.2.2.1 z136.2.2.2.2.1 z136.2.2.2.2.2.1 z136.2.2.2.2.2.2.1 z136.2.2.2.2.2.2.2.1 z136.2.2.2.2.2.2.2.2 z133.2.2.2.2.2.2.2.2.2)) (As := [.int (11 - (kind x1.toNatClampNeg)), .int (left_ x1.toNatClampNeg), .int z133.1]) (rest := []) F hNw hK hP hD hS hA (c_X7_place l D cI cJ cB a0 a_roots a_moved a_text a_out a_above a_below a_sum a_point a_pointRows a_pointSorts a_kind a_left a_right a_many a_bits a_rows a_table a_row _ thrown z133.2.1 rooted size outSize points takenOut great at_ fault open_ wrong by_ sort variable_ pointCount z133.2.2.1 z133.2.2.2.1 z133.2.2.2.2.1 z133.2.2.2.2.2.1 z133.2.2.2.2.2.2.1 z133.2.2.2.2.2.2.2.1 z133.2.2.2.2.2.2.2.2.1 z133.2.2.2.2.2.2.2.2.2 (11 - (kind x1.toNatClampNeg)) (left_ x1.toNatClampNeg) z133.1 N hz136) wm_1082 cv_X7_place [0, 1, 2, 3, 4, 5, 6, 7, 8] [] [0, 1, 2, 3, 4, 5, 6, 7, 8] (⟨rfl, rfl, rfl, by decide, rfl⟩ : Ix [0, 1, 2, 3, 4, 5, 6, 7, 8] [] [0, 1, 2, 3, 4, 5, 6, 7, 8] 9) rfl (hN_of 0 9 (by decide +kernel) rfl (by decide +kernel) rfl) rfl rfl rfl rfl ⟨rfl, rfl, by show 1 + 1 ≤ 3 + (d + 1); omega, by show 8 + (9 + 11) + 27 ≤ 79 + 23 * (d + 1); omega⟩ hl.1 rfl (Nat.le_of_ble_eq_true rfl) ⟨Nat.zero_le _, Nat.zero_le _⟩ dX7_turned_136 (fun H locs hP hD hS => ?_)
        obtain rfl := Option.some.inj h
        exact r_ret (v := z136.1) F hr hlk rfl dX7_turned_139 hsz hP hD hS
    · have h := o_t c16 h
      refine lv_aload_n hx hb dX7_turned_19 rfl (lv_at hl 0 rfl) ?_
      refine r_get F hK hP 0 2 rfl inW_X7 wm_1094 rfl (by decide) rfl dX7_turned_20 ?_
      refine lv_iload_n hx hb dX7_turned_23 rfl (lv_at hl 1 rfl) ?_
      obtain ⟨hi24, h⟩ := o_ix h
      refine va_iald hx hb hK hP 2 0 rfl rfl hi24 dX7_turned_24 ?_
      refine lv_istore_n (lv' := [(2, .int (left_ x1.toNatClampNeg)), (0, .ref a0), (1, .int x1)]) hx hb dX7_turned_25 rfl hl (by decide) rfl (fun ls hl => ?_)
      refine lv_iconst (v := 0) hx hb dX7_turned_26 (by decide) ?_
      refine lv_istore_n (lv' := [(3, .int 0), (2, .int (left_ x1.toNatClampNeg)), (0, .ref a0), (1, .int x1)]) hx hb dX7_turned_27 rfl hl (by decide) rfl (fun ls hl => ?_)
      exact w_X7_turned_28 CX hK hsz (ih_X7_turned := ih_X7_turned) N used kind left_ right_ many bits rows table row x1 (left_ x1.toNatClampNeg) 0 _ _ _ h hP hD hS (lv_sub hl [2, 3, 1, 0] rfl)
  · have h := o_f c2 h
    refine lv_iconst (v := 1) hx hb dX7_turned_5 (by decide) ?_
    refine lv_iload_n hx hb dX7_turned_6 rfl (lv_at hl 1 rfl) ?_
    refine lv_isub hx hb dX7_turned_7 ?_
    obtain rfl := Option.some.inj h
    exact r_ret (v := 1 - x1) F hr hlk rfl dX7_turned_8 hsz hP hD hS
def fg_turned (N : Nat) : Nat → (Int32 → (Nat → Int32) → (Nat → Int32) → (Nat → Int32) → (Nat → Int32) → (Nat → Int32) → (Nat → Int32) → (Nat → Int32) → (Nat → Int64) → Int32 → Option (Int32 × (Int32) × (Nat → Int32) × (Nat → Int32) × (Nat → Int32) × (Nat → Int32) × (Nat → Int32) × (Nat → Int32) × (Nat → Int32) × (Nat → Int64)))
  | 0 => fun _ _ _ _ _ _ _ _ _ _ => none
  | d + 1 => F_X7_turned (fg_turned N d) N
theorem cg_turned (l : Launch) (D : va_G) (cI cJ cB : ClassId) (N : Nat) : ∀ d : Nat, CP_X7_turned l D cI cJ cB (rmg_turned d) (fg_turned N d) := by
  intro d
  induction d with
  | zero =>
    exact (by intro a0 a_roots a_moved a_text a_out a_above a_below a_sum a_point a_pointRows a_pointSorts a_kind a_left a_right a_many a_bits a_rows a_table a_row sz thrown used rooted size outSize points takenOut great at_ fault open_ wrong by_ sort variable_ pointCount kind left_ right_ many bits rows table row x1 z h; cases h)
  | succ d ih =>
    exact cF_X7_turned l D cI cJ cB N d ih
def f_X7_turned (N : Nat) (used : Int32) (kind : Nat → Int32) (left_ : Nat → Int32) (right_ : Nat → Int32) (many : Nat → Int32) (bits : Nat → Int32) (rows : Nat → Int32) (table : Nat → Int32) (row : Nat → Int64) (x1 : Int32) : Option (Int32 × (Int32) × (Nat → Int32) × (Nat → Int32) × (Nat → Int32) × (Nat → Int32) × (Nat → Int32) × (Nat → Int32) × (Nat → Int32) × (Nat → Int64)) := (fg_turned N 450) used kind left_ right_ many bits rows table row x1
abbrev rm_X7_turned : Room := { frames := 453, cells := 0, slots := 0, locals := 10429 }
theorem c_X7_turned (l : Launch) (D : va_G) (cI cJ cB : ClassId) (a0 a_roots a_moved a_text a_out a_above a_below a_sum a_point a_pointRows a_pointSorts a_kind a_left a_right a_many a_bits a_rows a_table a_row : Nat) (sz : Nat) (thrown : Int32) (used : Int32) (rooted : Int32) (size : Int32) (outSize : Int32) (points : Int32) (takenOut : Int32) (great : Int32) (at_ : Int32) (fault : Int32) (open_ : Int32) (wrong : Int32) (by_ : Int64) (sort : Int32) (variable_ : Int32) (pointCount : Int32) (kind : Nat → Int32) (left_ : Nat → Int32) (right_ : Nat → Int32) (many : Nat → Int32) (bits : Nat → Int32) (rows : Nat → Int32) (table : Nat → Int32) (row : Nat → Int64) (x1 : Int32) (N : Nat) {z : Int32 × (Int32) × (Nat → Int32) × (Nat → Int32) × (Nat → Int32) × (Nat → Int32) × (Nat → Int32) × (Nat → Int32) × (Nat → Int32) × (Nat → Int64)} (h : f_X7_turned N used kind left_ right_ many bits rows table row x1 = some z) : Mg l yX7_turned cX7_turned 4 (some .int) rm_X7_turned D (ty0 cI cJ cB) [.ref a0, .int x1] sz (ws_X7_turned cI cJ cB a0 a_roots a_moved a_text a_out a_above a_below a_sum a_point a_pointRows a_pointSorts a_kind a_left a_right a_many a_bits a_rows a_table a_row thrown used rooted size outSize points takenOut great at_ fault open_ wrong by_ sort variable_ pointCount kind left_ right_ many bits rows table row) (some (.int z.1)) (ws_X7_turned cI cJ cB a0 a_roots a_moved a_text a_out a_above a_below a_sum a_point a_pointRows a_pointSorts a_kind a_left a_right a_many a_bits a_rows a_table a_row thrown z.2.1 rooted size outSize points takenOut great at_ fault open_ wrong by_ sort variable_ pointCount z.2.2.1 z.2.2.2.1 z.2.2.2.2.1 z.2.2.2.2.2.1 z.2.2.2.2.2.2.1 z.2.2.2.2.2.2.2.1 z.2.2.2.2.2.2.2.2.1 z.2.2.2.2.2.2.2.2.2) :=
  (cg_turned l D cI cJ cB N 450) a0 a_roots a_moved a_text a_out a_above a_below a_sum a_point a_pointRows a_pointSorts a_kind a_left a_right a_many a_bits a_rows a_table a_row sz thrown used rooted size outSize points takenOut great at_ fault open_ wrong by_ sort variable_ pointCount kind left_ right_ many bits rows table row x1 h
abbrev rmg_putAll (d : Nat) : Room := { frames := 4 + d, cells := 0, slots := 0, locals := 105 + 23 * d }
abbrev ws_X7_putAll (cI cJ cB : ClassId) (a0 a_roots a_moved a_text a_out a_above a_below a_sum a_pointRows a_pointSorts a_kind a_left a_right a_many a_bits a_rows a_table a_row a_point : Nat) (thrown : Int32) (used : Int32) (rooted : Int32) (size : Int32) (outSize : Int32) (points : Int32) (takenOut : Int32) (great : Int32) (at_ : Int32) (fault : Int32) (open_ : Int32) (wrong : Int32) (by_ : Int64) (sort : Int32) (variable_ : Int32) (pointCount : Int32) (kind : Nat → Int32) (left_ : Nat → Int32) (right_ : Nat → Int32) (many : Nat → Int32) (bits : Nat → Int32) (rows : Nat → Int32) (table : Nat → Int32) (row : Nat → Int64) (point : Nat → Int64) : va_W := [(a0, .inr (9, [.int thrown, .ref a_kind, .ref a_left, .ref a_right, .ref a_many, .ref a_bits, .ref a_rows, .ref a_table, .int used, .ref a_roots, .int rooted, .ref a_moved, .ref a_text, .int size, .ref a_out, .int outSize, .ref a_above, .ref a_below, .int points, .int takenOut, .int great, .ref a_row, .int at_, .int fault, .int open_, .int wrong, .ref a_sum, .ref a_point, .long by_, .int sort, .int variable_, .ref a_pointRows, .ref a_pointSorts, .int pointCount])), (a_kind, .inl (cI, 24000, .inl kind)), (a_left, .inl (cI, 24000, .inl left_)), (a_right, .inl (cI, 24000, .inl right_)), (a_many, .inl (cI, 24000, .inl many)), (a_bits, .inl (cI, 24000, .inl bits)), (a_rows, .inl (cI, 216000, .inl rows)), (a_table, .inl (cI, 65536, .inl table)), (a_row, .inl (cJ, 9, .inr (.inl row))), (a_point, .inl (cJ, 9, .inr (.inl point)))]
def CP_X7_putAll (l : Launch) (D : va_G) (cI cJ cB : ClassId) (rm : Room) (f : Int32 → Int32 → Int64 → Int32 → Int32 → (Nat → Int32) → (Nat → Int32) → (Nat → Int32) → (Nat → Int32) → (Nat → Int32) → (Nat → Int32) → (Nat → Int32) → (Nat → Int64) → (Nat → Int64) → Int32 → Option (Int32 × (Int32) × (Int32) × (Nat → Int32) × (Nat → Int32) × (Nat → Int32) × (Nat → Int32) × (Nat → Int32) × (Nat → Int32) × (Nat → Int32) × (Nat → Int64))) : Prop := ∀ (a0 a_roots a_moved a_text a_out a_above a_below a_sum a_pointRows a_pointSorts a_kind a_left a_right a_many a_bits a_rows a_table a_row a_point : Nat) (sz : Nat) (thrown : Int32) (used : Int32) (rooted : Int32) (size : Int32) (outSize : Int32) (points : Int32) (takenOut : Int32) (great : Int32) (at_ : Int32) (fault : Int32) (open_ : Int32) (wrong : Int32) (by_ : Int64) (sort : Int32) (variable_ : Int32) (pointCount : Int32) (kind : Nat → Int32) (left_ : Nat → Int32) (right_ : Nat → Int32) (many : Nat → Int32) (bits : Nat → Int32) (rows : Nat → Int32) (table : Nat → Int32) (row : Nat → Int64) (point : Nat → Int64) (x1 : Int32) {z : Int32 × (Int32) × (Int32) × (Nat → Int32) × (Nat → Int32) × (Nat → Int32) × (Nat → Int32) × (Nat → Int32) × (Nat → Int32) × (Nat → Int32) × (Nat → Int64)}, f used great by_ sort variable_ kind left_ right_ many bits rows table row point x1 = some z → Mg l yX7_putAll cX7_putAll 4 (some .int) rm D (ty0 cI cJ cB) [.ref a0, .int x1] sz (ws_X7_putAll cI cJ cB a0 a_roots a_moved a_text a_out a_above a_below a_sum a_pointRows a_pointSorts a_kind a_left a_right a_many a_bits a_rows a_table a_row a_point thrown used rooted size outSize points takenOut great at_ fault open_ wrong by_ sort variable_ pointCount kind left_ right_ many bits rows table row point) (some (.int z.1)) (ws_X7_putAll cI cJ cB a0 a_roots a_moved a_text a_out a_above a_below a_sum a_pointRows a_pointSorts a_kind a_left a_right a_many a_bits a_rows a_table a_row a_point thrown z.2.1 rooted size outSize points takenOut z.2.2.1 at_ fault open_ wrong by_ sort variable_ pointCount z.2.2.2.1 z.2.2.2.2.1 z.2.2.2.2.2.1 z.2.2.2.2.2.2.1 z.2.2.2.2.2.2.2.1 z.2.2.2.2.2.2.2.2.1 z.2.2.2.2.2.2.2.2.2.1 z.2.2.2.2.2.2.2.2.2.2 point)
section G_X7_putAll
def f_X7_putAll_23 (R_X7_putAll : Int32 → Int32 → Int64 → Int32 → Int32 → (Nat → Int32) → (Nat → Int32) → (Nat → Int32) → (Nat → Int32) → (Nat → Int32) → (Nat → Int32) → (Nat → Int32) → (Nat → Int64) → (Nat → Int64) → Int32 → Option (Int32 × (Int32) × (Int32) × (Nat → Int32) × (Nat → Int32) × (Nat → Int32) × (Nat → Int32) × (Nat → Int32) × (Nat → Int32) × (Nat → Int32) × (Nat → Int64))) (N : Nat) (used : Int32) (great : Int32) (by_ : Int64) (sort : Int32) (variable_ : Int32) (kind : Nat → Int32) (left_ : Nat → Int32) (right_ : Nat → Int32) (many : Nat → Int32) (bits : Nat → Int32) (rows : Nat → Int32) (table : Nat → Int32) (row : Nat → Int64) (point : Nat → Int64) (y1 : Int32) : Option (Int32 × (Int32) × (Int32) × (Nat → Int32) × (Nat → Int32) × (Nat → Int32) × (Nat → Int32) × (Nat → Int32) × (Nat → Int32) × (Nat → Int32) × (Nat → Int64)) := some (y1, used, great, kind, left_, right_, many, bits, rows, table, row)
def f_X7_putAll_95 (R_X7_putAll : Int32 → Int32 → Int64 → Int32 → Int32 → (Nat → Int32) → (Nat → Int32) → (Nat → Int32) → (Nat → Int32) → (Nat → Int32) → (Nat → Int32) → (Nat → Int32) → (Nat → Int64) → (Nat → Int64) → Int32 → Option (Int32 × (Int32) × (Int32) × (Nat → Int32) × (Nat → Int32) × (Nat → Int32) × (Nat → Int32) × (Nat → Int32) × (Nat → Int32) × (Nat → Int32) × (Nat → Int64))) (N : Nat) (used : Int32) (great : Int32) (by_ : Int64) (sort : Int32) (variable_ : Int32) (kind : Nat → Int32) (left_ : Nat → Int32) (right_ : Nat → Int32) (many : Nat → Int32) (bits : Nat → Int32) (rows : Nat → Int32) (table : Nat → Int32) (row : Nat → Int64) (point : Nat → Int64) (s0 : Int32) : Option (Int32 × (Int32) × (Int32) × (Nat → Int32) × (Nat → Int32) × (Nat → Int32) × (Nat → Int32) × (Nat → Int32) × (Nat → Int32) × (Nat → Int32) × (Nat → Int64)) := some (s0, used, great, kind, left_, right_, many, bits, rows, table, row)
def f_X7_putAll_90 (R_X7_putAll : Int32 → Int32 → Int64 → Int32 → Int32 → (Nat → Int32) → (Nat → Int32) → (Nat → Int32) → (Nat → Int32) → (Nat → Int32) → (Nat → Int32) → (Nat → Int32) → (Nat → Int64) → (Nat → Int64) → Int32 → Option (Int32 × (Int32) × (Int32) × (Nat → Int32) × (Nat → Int32) × (Nat → Int32) × (Nat → Int32) × (Nat → Int32) × (Nat → Int32) × (Nat → Int32) × (Nat → Int64))) (N : Nat) (used : Int32) (great : Int32) (by_ : Int64) (sort : Int32) (variable_ : Int32) (kind : Nat → Int32) (left_ : Nat → Int32) (right_ : Nat → Int32) (many : Nat → Int32) (bits : Nat → Int32) (rows : Nat → Int32) (table : Nat → Int32) (row : Nat → Int64) (point : Nat → Int64) (y2 : Int32) (y3 : Int32) (s1 : Int32) : Option (Int32 × (Int32) × (Int32) × (Nat → Int32) × (Nat → Int32) × (Nat → Int32) × (Nat → Int32) × (Nat → Int32) × (Nat → Int32) × (Nat → Int32) × (Nat → Int64)) := (f_X7_both N used kind left_ right_ many bits rows table row s1 y2 y3).bind (fun z92 => f_X7_putAll_95 R_X7_putAll N z92.2.1 great by_ sort variable_ z92.2.2.1 z92.2.2.2.1 z92.2.2.2.2.1 z92.2.2.2.2.2.1 z92.2.2.2.2.2.2.1 z92.2.2.2.2.2.2.2.1 z92.2.2.2.2.2.2.2.2 row point z92.1)
def F_X7_putAll (R_X7_putAll : Int32 → Int32 → Int64 → Int32 → Int32 → (Nat → Int32) → (Nat → Int32) → (Nat → Int32) → (Nat → Int32) → (Nat → Int32) → (Nat → Int32) → (Nat → Int32) → (Nat → Int64) → (Nat → Int64) → Int32 → Option (Int32 × (Int32) × (Int32) × (Nat → Int32) × (Nat → Int32) × (Nat → Int32) × (Nat → Int32) × (Nat → Int32) × (Nat → Int32) × (Nat → Int32) × (Nat → Int64))) (N : Nat) (used : Int32) (great : Int32) (by_ : Int64) (sort : Int32) (variable_ : Int32) (kind : Nat → Int32) (left_ : Nat → Int32) (right_ : Nat → Int32) (many : Nat → Int32) (bits : Nat → Int32) (rows : Nat → Int32) (table : Nat → Int32) (row : Nat → Int64) (point : Nat → Int64) (x1 : Int32) : Option (Int32 × (Int32) × (Int32) × (Nat → Int32) × (Nat → Int32) × (Nat → Int32) × (Nat → Int32) × (Nat → Int32) × (Nat → Int32) × (Nat → Int32) × (Nat → Int64)) := ix x1 24000 (ifb ((((bits x1.toNatClampNeg) >>> (variable_ &&& 31)) &&& 1) = 0) (f_X7_putAll_23 R_X7_putAll N used great by_ sort variable_ kind left_ right_ many bits rows table row point x1) (ifb (great = 0) (ix x1 24000 (ifb ((kind x1.toNatClampNeg) = 2) ((f_X7_put N used great by_ sort variable_ kind left_ right_ many bits rows table row point x1).bind (fun z37 => some (z37.1, z37.2.1, z37.2.2.1, z37.2.2.2.1, z37.2.2.2.2.1, z37.2.2.2.2.2.1, z37.2.2.2.2.2.2.1, z37.2.2.2.2.2.2.2.1, z37.2.2.2.2.2.2.2.2.1, z37.2.2.2.2.2.2.2.2.2.1, z37.2.2.2.2.2.2.2.2.2.2))) (ix x1 24000 ((R_X7_putAll used great by_ sort variable_ kind left_ right_ many bits rows table row point (left_ x1.toNatClampNeg)).bind (fun z48 => ix x1 24000 ((R_X7_putAll z48.2.1 z48.2.2.1 by_ sort variable_ z48.2.2.2.1 z48.2.2.2.2.1 z48.2.2.2.2.2.1 z48.2.2.2.2.2.2.1 z48.2.2.2.2.2.2.2.1 z48.2.2.2.2.2.2.2.2.1 z48.2.2.2.2.2.2.2.2.2.1 z48.2.2.2.2.2.2.2.2.2.2 point (z48.2.2.2.2.2.1 x1.toNatClampNeg)).bind (fun z59 => ifb (z59.2.2.1 = 0) (ix x1 24000 (ifb ((z59.2.2.2.1 x1.toNatClampNeg) = 3) (f_X7_putAll_90 R_X7_putAll N z59.2.1 z59.2.2.1 by_ sort variable_ z59.2.2.2.1 z59.2.2.2.2.1 z59.2.2.2.2.2.1 z59.2.2.2.2.2.2.1 z59.2.2.2.2.2.2.2.1 z59.2.2.2.2.2.2.2.2.1 z59.2.2.2.2.2.2.2.2.2.1 z59.2.2.2.2.2.2.2.2.2.2 point z48.1 z59.1 1) (f_X7_putAll_90 R_X7_putAll N z59.2.1 z59.2.2.1 by_ sort variable_ z59.2.2.2.1 z59.2.2.2.2.1 z59.2.2.2.2.2.1 z59.2.2.2.2.2.2.1 z59.2.2.2.2.2.2.2.1 z59.2.2.2.2.2.2.2.2.1 z59.2.2.2.2.2.2.2.2.2.1 z59.2.2.2.2.2.2.2.2.2.2 point z48.1 z59.1 0))) (f_X7_putAll_95 R_X7_putAll N z59.2.1 z59.2.2.1 by_ sort variable_ z59.2.2.2.1 z59.2.2.2.2.1 z59.2.2.2.2.2.1 z59.2.2.2.2.2.2.1 z59.2.2.2.2.2.2.2.1 z59.2.2.2.2.2.2.2.2.1 z59.2.2.2.2.2.2.2.2.2.1 z59.2.2.2.2.2.2.2.2.2.2 point 0)))))))) (f_X7_putAll_23 R_X7_putAll N used great by_ sort variable_ kind left_ right_ many bits rows table row point x1)))
variable {p : Program} {l : Launch} {e : Env} {s : State} {m : MethodId} {below : List Frame} {meth : Method} {c : Code} {args : Array Value} {x0 : Cond} {D : va_G} {cI cJ cB : ClassId} {sz N : Nat} {ws0 : va_W} {a0 a_roots a_moved a_text a_out a_above a_below a_sum a_pointRows a_pointSorts a_kind a_left a_right a_many a_bits a_rows a_table a_row a_point : Nat} {thrown : Int32} {rooted : Int32} {size : Int32} {outSize : Int32} {points : Int32} {takenOut : Int32} {at_ : Int32} {fault : Int32} {open_ : Int32} {wrong : Int32} {by_ : Int64} {sort : Int32} {variable_ : Int32} {pointCount : Int32} {point : Nat → Int64} {z : Int32 × (Int32) × (Int32) × (Nat → Int32) × (Nat → Int32) × (Nat → Int32) × (Nat → Int32) × (Nat → Int32) × (Nat → Int32) × (Nat → Int32) × (Nat → Int64)} {d : Nat} {R_X7_putAll : Int32 → Int32 → Int64 → Int32 → Int32 → (Nat → Int32) → (Nat → Int32) → (Nat → Int32) → (Nat → Int32) → (Nat → Int32) → (Nat → Int32) → (Nat → Int32) → (Nat → Int64) → (Nat → Int64) → Int32 → Option (Int32 × (Int32) × (Int32) × (Nat → Int32) × (Nat → Int32) × (Nat → Int32) × (Nat → Int32) × (Nat → Int32) × (Nat → Int32) × (Nat → Int32) × (Nat → Int64))}
set_option maxHeartbeats 4000000 in
set_option maxRecDepth 100000 in
theorem w_X7_putAll_23 (CX : Cx p m c cX7_putAll 4 s args x0 RX7 meth (some .int)) (hK : va_K D vwCl (ty0 cI cJ cB) s) (hsz : s.heap.size = sz) (ih_X7_putAll : CP_X7_putAll l D cI cJ cB (rmg_putAll d) R_X7_putAll) : ∀ (used : Int32) (great : Int32) (kind : Nat → Int32) (left_ : Nat → Int32) (right_ : Nat → Int32) (many : Nat → Int32) (bits : Nat → Int32) (rows : Nat → Int32) (table : Nat → Int32) (row : Nat → Int64) (y1 : Int32) (H : Heap) (locs : List Loc) (ls : Array Slot), f_X7_putAll_23 R_X7_putAll N used great by_ sort variable_ kind left_ right_ many bits rows table row point y1 = some z → va_P D vwCl (ws_X7_putAll cI cJ cB a0 a_roots a_moved a_text a_out a_above a_below a_sum a_pointRows a_pointSorts a_kind a_left a_right a_many a_bits a_rows a_table a_row a_point thrown used rooted size outSize points takenOut great at_ fault open_ wrong by_ sort variable_ pointCount kind left_ right_ many bits rows table row point) H → va_D (va_A ws0 sz) (ws_X7_putAll cI cJ cB a0 a_roots a_moved a_text a_out a_above a_below a_sum a_pointRows a_pointSorts a_kind a_left a_right a_many a_bits a_rows a_table a_row a_point thrown used rooted size outSize points takenOut great at_ fault open_ wrong by_ sort variable_ pointCount kind left_ right_ many bits rows table row point) → va_S (va_A ws0 sz) s.heap H locs → lv_has ls 4 [(1, .int y1)] → W p l e (rmg_putAll (d + 1)) s m args below meth c H locs 0 0 (MQ below (gQ D sz ws0 (ws_X7_putAll cI cJ cB a0 a_roots a_moved a_text a_out a_above a_below a_sum a_pointRows a_pointSorts a_kind a_left a_right a_many a_bits a_rows a_table a_row a_point thrown z.2.1 rooted size outSize points takenOut z.2.2.1 at_ fault open_ wrong by_ sort variable_ pointCount z.2.2.2.1 z.2.2.2.2.1 z.2.2.2.2.2.1 z.2.2.2.2.2.2.1 z.2.2.2.2.2.2.2.1 z.2.2.2.2.2.2.2.2.1 z.2.2.2.2.2.2.2.2.2.1 z.2.2.2.2.2.2.2.2.2.2 point) (some (.int z.1))) args s 0 0 (va_A ws0 sz)) (F0 m 23 ls []) := by
  obtain ⟨F, hr, hlk, hNw⟩ := id CX
  have hx := F.1
  have hb := F.2.1
  have hown := F.2.2.2.1
  have hA : ∀ q, s.heap.size ≤ q → va_A ws0 sz q := fun q hq => Or.inr (hsz ▸ hq)
  intro used great kind left_ right_ many bits rows table row y1 H locs ls h hP hD hS hl
  unfold f_X7_putAll_23 at h
  refine lv_iload_n hx hb dX7_putAll_23 rfl (lv_at hl 0 rfl) ?_
  obtain rfl := Option.some.inj h
  exact r_ret (v := y1) F hr hlk rfl dX7_putAll_24 hsz hP hD hS
set_option maxHeartbeats 4000000 in
set_option maxRecDepth 100000 in
theorem w_X7_putAll_95 (CX : Cx p m c cX7_putAll 4 s args x0 RX7 meth (some .int)) (hK : va_K D vwCl (ty0 cI cJ cB) s) (hsz : s.heap.size = sz) (ih_X7_putAll : CP_X7_putAll l D cI cJ cB (rmg_putAll d) R_X7_putAll) : ∀ (used : Int32) (great : Int32) (kind : Nat → Int32) (left_ : Nat → Int32) (right_ : Nat → Int32) (many : Nat → Int32) (bits : Nat → Int32) (rows : Nat → Int32) (table : Nat → Int32) (row : Nat → Int64) (s0 : Int32) (H : Heap) (locs : List Loc) (ls : Array Slot), f_X7_putAll_95 R_X7_putAll N used great by_ sort variable_ kind left_ right_ many bits rows table row point s0 = some z → va_P D vwCl (ws_X7_putAll cI cJ cB a0 a_roots a_moved a_text a_out a_above a_below a_sum a_pointRows a_pointSorts a_kind a_left a_right a_many a_bits a_rows a_table a_row a_point thrown used rooted size outSize points takenOut great at_ fault open_ wrong by_ sort variable_ pointCount kind left_ right_ many bits rows table row point) H → va_D (va_A ws0 sz) (ws_X7_putAll cI cJ cB a0 a_roots a_moved a_text a_out a_above a_below a_sum a_pointRows a_pointSorts a_kind a_left a_right a_many a_bits a_rows a_table a_row a_point thrown used rooted size outSize points takenOut great at_ fault open_ wrong by_ sort variable_ pointCount kind left_ right_ many bits rows table row point) → va_S (va_A ws0 sz) s.heap H locs → lv_has ls 4 [] → W p l e (rmg_putAll (d + 1)) s m args below meth c H locs 0 0 (MQ below (gQ D sz ws0 (ws_X7_putAll cI cJ cB a0 a_roots a_moved a_text a_out a_above a_below a_sum a_pointRows a_pointSorts a_kind a_left a_right a_many a_bits a_rows a_table a_row a_point thrown z.2.1 rooted size outSize points takenOut z.2.2.1 at_ fault open_ wrong by_ sort variable_ pointCount z.2.2.2.1 z.2.2.2.2.1 z.2.2.2.2.2.1 z.2.2.2.2.2.2.1 z.2.2.2.2.2.2.2.1 z.2.2.2.2.2.2.2.2.1 z.2.2.2.2.2.2.2.2.2.1 z.2.2.2.2.2.2.2.2.2.2 point) (some (.int z.1))) args s 0 0 (va_A ws0 sz)) (F0 m 95 ls [.int s0]) := by
  obtain ⟨F, hr, hlk, hNw⟩ := id CX
  have hx := F.1
  have hb := F.2.1
  have hown := F.2.2.2.1
  have hA : ∀ q, s.heap.size ≤ q → va_A ws0 sz q := fun q hq => Or.inr (hsz ▸ hq)
  intro used great kind left_ right_ many bits rows table row s0 H locs ls h hP hD hS hl
  unfold f_X7_putAll_95 at h
  obtain rfl := Option.some.inj h
  exact r_ret (v := s0) F hr hlk rfl dX7_putAll_95 hsz hP hD hS
set_option maxHeartbeats 4000000 in
set_option maxRecDepth 100000 in
theorem w_X7_putAll_90 (CX : Cx p m c cX7_putAll 4 s args x0 RX7 meth (some .int)) (hK : va_K D vwCl (ty0 cI cJ cB) s) (hsz : s.heap.size = sz) (ih_X7_putAll : CP_X7_putAll l D cI cJ cB (rmg_putAll d) R_X7_putAll) : ∀ (used : Int32) (great : Int32) (kind : Nat → Int32) (left_ : Nat → Int32) (right_ : Nat → Int32) (many : Nat → Int32) (bits : Nat → Int32) (rows : Nat → Int32) (table : Nat → Int32) (row : Nat → Int64) (y2 : Int32) (y3 : Int32) (s1 : Int32) (H : Heap) (locs : List Loc) (ls : Array Slot), f_X7_putAll_90 R_X7_putAll N used great by_ sort variable_ kind left_ right_ many bits rows table row point y2 y3 s1 = some z → va_P D vwCl (ws_X7_putAll cI cJ cB a0 a_roots a_moved a_text a_out a_above a_below a_sum a_pointRows a_pointSorts a_kind a_left a_right a_many a_bits a_rows a_table a_row a_point thrown used rooted size outSize points takenOut great at_ fault open_ wrong by_ sort variable_ pointCount kind left_ right_ many bits rows table row point) H → va_D (va_A ws0 sz) (ws_X7_putAll cI cJ cB a0 a_roots a_moved a_text a_out a_above a_below a_sum a_pointRows a_pointSorts a_kind a_left a_right a_many a_bits a_rows a_table a_row a_point thrown used rooted size outSize points takenOut great at_ fault open_ wrong by_ sort variable_ pointCount kind left_ right_ many bits rows table row point) → va_S (va_A ws0 sz) s.heap H locs → lv_has ls 4 [(2, .int y2), (3, .int y3)] → W p l e (rmg_putAll (d + 1)) s m args below meth c H locs 0 0 (MQ below (gQ D sz ws0 (ws_X7_putAll cI cJ cB a0 a_roots a_moved a_text a_out a_above a_below a_sum a_pointRows a_pointSorts a_kind a_left a_right a_many a_bits a_rows a_table a_row a_point thrown z.2.1 rooted size outSize points takenOut z.2.2.1 at_ fault open_ wrong by_ sort variable_ pointCount z.2.2.2.1 z.2.2.2.2.1 z.2.2.2.2.2.1 z.2.2.2.2.2.2.1 z.2.2.2.2.2.2.2.1 z.2.2.2.2.2.2.2.2.1 z.2.2.2.2.2.2.2.2.2.1 z.2.2.2.2.2.2.2.2.2.2 point) (some (.int z.1))) args s 0 0 (va_A ws0 sz)) (F0 m 90 ls [.int s1, .ref a0]) := by
  obtain ⟨F, hr, hlk, hNw⟩ := id CX
  have hx := F.1
  have hb := F.2.1
  have hown := F.2.2.2.1
  have hA : ∀ q, s.heap.size ≤ q → va_A ws0 sz q := fun q hq => Or.inr (hsz ▸ hq)
  intro used great kind left_ right_ many bits rows table row y2 y3 s1 H locs ls h hP hD hS hl
  unfold f_X7_putAll_90 at h
  refine lv_iload_n hx hb dX7_putAll_90 rfl (lv_at hl 0 rfl) ?_
  refine lv_iload_n hx hb dX7_putAll_91 rfl (lv_at hl 1 rfl) ?_
  obtain ⟨z92, hz92, h⟩ := o_b h
  refine k_v (wn := (ws_X7_putAll cI cJ cB a0 a_roots a_moved a_text a_out a_above a_below a_sum a_pointRows a_pointSorts a_kind a_left a_right a_many a_bits a_rows a_table a_row a_point thrown z92.2.1 rooted size outSize points takenOut great at_ fault open_ wrong by_ sort variable_ pointCount z92.2.2.1 z92.2.2.2.1 z92.2.2.2.2.1 z92.2.2.2.2.2.1 z92.2.2.2.2.2.2.1 z92.2.2.2.2.2.2.2.1 z92.2.2.2.2.2.2.2.2 row point)) (As := [.int s1, .int y2, .int y3]) (rest := []) F hNw hK hP hD hS hA (c_X7_both l D cI cJ cB a0 a_roots a_moved a_text a_out a_above a_below a_sum a_point a_pointRows a_pointSorts a_kind a_left a_right a_many a_bits a_rows a_table a_row _ thrown used rooted size outSize points takenOut great at_ fault open_ wrong by_ sort variable_ pointCount kind left_ right_ many bits rows table row s1 y2 y3 N hz92) wm_1270 cv_X7_both [0, 1, 2, 3, 4, 5, 6, 7, 8] [9] [1, 2, 3, 4, 5, 6, 7, 8, 9, 0] (⟨rfl, rfl, rfl, by decide, rfl⟩ : Ix [0, 1, 2, 3, 4, 5, 6, 7, 8] [9] [1, 2, 3, 4, 5, 6, 7, 8, 9, 0] 10) rfl (hN_of 1 10 (by decide +kernel) rfl (by decide +kernel) rfl) rfl rfl rfl rfl ⟨rfl, rfl, by show 2 + 1 ≤ 4 + (d + 1); omega, by show 8 + (5 + 11) + 55 ≤ 105 + 23 * (d + 1); omega⟩ hl.1 rfl (Nat.le_of_ble_eq_true rfl) ⟨Nat.zero_le _, Nat.zero_le _⟩ dX7_putAll_92 (fun H locs hP hD hS => ?_)
  exact w_X7_putAll_95 CX hK hsz (ih_X7_putAll := ih_X7_putAll) z92.2.1 great z92.2.2.1 z92.2.2.2.1 z92.2.2.2.2.1 z92.2.2.2.2.2.1 z92.2.2.2.2.2.2.1 z92.2.2.2.2.2.2.2.1 z92.2.2.2.2.2.2.2.2 row z92.1 _ _ _ h hP hD hS (lv_sub hl [] rfl)
end G_X7_putAll
set_option maxHeartbeats 4000000 in
set_option maxRecDepth 100000 in
theorem cF_X7_putAll (l : Launch) (D : va_G) (cI cJ cB : ClassId) (N d : Nat) {R_X7_putAll : Int32 → Int32 → Int64 → Int32 → Int32 → (Nat → Int32) → (Nat → Int32) → (Nat → Int32) → (Nat → Int32) → (Nat → Int32) → (Nat → Int32) → (Nat → Int32) → (Nat → Int64) → (Nat → Int64) → Int32 → Option (Int32 × (Int32) × (Int32) × (Nat → Int32) × (Nat → Int32) × (Nat → Int32) × (Nat → Int32) × (Nat → Int32) × (Nat → Int32) × (Nat → Int32) × (Nat → Int64))} (ih_X7_putAll : CP_X7_putAll l D cI cJ cB (rmg_putAll d) R_X7_putAll) : CP_X7_putAll l D cI cJ cB (rmg_putAll (d + 1)) (F_X7_putAll R_X7_putAll N) := by
  intro a0 a_roots a_moved a_text a_out a_above a_below a_sum a_pointRows a_pointSorts a_kind a_left a_right a_many a_bits a_rows a_table a_row a_point sz thrown used rooted size outSize points takenOut great at_ fault open_ wrong by_ sort variable_ pointCount kind left_ right_ many bits rows table row point x1 z h
  refine Mg.of (by decide) (Nat.le_of_ble_eq_true rfl) ?_
  intro p e s m below meth c CX hK hsz hP hD ls hl
  have CX : Cx p m c cX7_putAll 4 s ([.ref a0, .int x1] : List Value).toArray (Cond.code yX7_putAll cX7_putAll 4 (some .int)) RX7 meth (some .int) := CX
  obtain ⟨F, hr, hlk, hNw⟩ := id CX
  have hx := F.1
  have hb := F.2.1
  have hown := F.2.2.2.1
  have hl : lv_has ls 4 [(0, .ref a0), (1, .int x1)] := hl
  have hS : va_S (va_A (ws_X7_putAll cI cJ cB a0 a_roots a_moved a_text a_out a_above a_below a_sum a_pointRows a_pointSorts a_kind a_left a_right a_many a_bits a_rows a_table a_row a_point thrown used rooted size outSize points takenOut great at_ fault open_ wrong by_ sort variable_ pointCount kind left_ right_ many bits rows table row point) sz) s.heap s.heap [] := va_S.rf
  have hA : ∀ q, s.heap.size ≤ q → va_A (ws_X7_putAll cI cJ cB a0 a_roots a_moved a_text a_out a_above a_below a_sum a_pointRows a_pointSorts a_kind a_left a_right a_many a_bits a_rows a_table a_row a_point thrown used rooted size outSize points takenOut great at_ fault open_ wrong by_ sort variable_ pointCount kind left_ right_ many bits rows table row point) sz q := fun q hq => Or.inr (hsz ▸ hq)
  unfold F_X7_putAll at h
  refine lv_aload_n hx hb dX7_putAll_0 rfl (lv_at hl 0 rfl) ?_
  refine r_get F hK hP 0 5 rfl inW_X7 wm_1097 rfl (by decide) rfl dX7_putAll_1 ?_
  refine lv_iload_n hx hb dX7_putAll_4 rfl (lv_at hl 1 rfl) ?_
  obtain ⟨hi5, h⟩ := o_ix h
  refine va_iald hx hb hK hP 5 0 rfl rfl hi5 dX7_putAll_5 ?_
  refine lv_aload_n hx hb dX7_putAll_6 rfl (lv_at hl 0 rfl) ?_
  refine r_get F hK hP 0 30 rfl inW_X7 wm_1122 rfl (by decide) rfl dX7_putAll_7 ?_
  refine lv_ishr hx hb dX7_putAll_10 ?_
  refine lv_iconst (v := 1) hx hb dX7_putAll_11 (by decide) ?_
  refine lv_iand hx hb dX7_putAll_12 ?_
  refine lv_if_eq (tgt := 23) hx hb dX7_putAll_13 (by decide) (fun c13 => ?_) (fun c13 => ?_)
  · have h := o_t c13 h
    exact w_X7_putAll_23 CX hK hsz (ih_X7_putAll := ih_X7_putAll) used great kind left_ right_ many bits rows table row x1 _ _ _ h hP hD hS (lv_sub hl [1] rfl)
  · have h := o_f c13 h
    refine lv_aload_n hx hb dX7_putAll_16 rfl (lv_at hl 0 rfl) ?_
    refine r_get F hK hP 0 20 rfl inW_X7 wm_1112 rfl (by decide) rfl dX7_putAll_17 ?_
    refine lv_if_eq (tgt := 25) hx hb dX7_putAll_20 (by decide) (fun c20 => ?_) (fun c20 => ?_)
    · have h := o_t c20 h
      refine lv_aload_n hx hb dX7_putAll_25 rfl (lv_at hl 0 rfl) ?_
      refine r_get F hK hP 0 1 rfl inW_X7 wm_1093 rfl (by decide) rfl dX7_putAll_26 ?_
      refine lv_iload_n hx hb dX7_putAll_29 rfl (lv_at hl 1 rfl) ?_
      obtain ⟨hi30, h⟩ := o_ix h
      refine va_iald hx hb hK hP 1 0 rfl rfl hi30 dX7_putAll_30 ?_
      refine lv_iconst (v := 2) hx hb dX7_putAll_31 (by decide) ?_
      refine lv_icmp_ne (tgt := 41) hx hb dX7_putAll_32 (by decide) (fun c32 => ?_) (fun c32 => ?_)
      · have h := o_f c32 h
        refine lv_aload_n hx hb dX7_putAll_41 rfl (lv_at hl 0 rfl) ?_
        refine lv_aload_n hx hb dX7_putAll_42 rfl (lv_at hl 0 rfl) ?_
        refine r_get F hK hP 0 2 rfl inW_X7 wm_1094 rfl (by decide) rfl dX7_putAll_43 ?_
        refine lv_iload_n hx hb dX7_putAll_46 rfl (lv_at hl 1 rfl) ?_
        obtain ⟨hi47, h⟩ := o_ix h
        refine va_iald hx hb hK hP 2 0 rfl rfl hi47 dX7_putAll_47 ?_
        obtain ⟨z48, hz48, h⟩ := o_b h
        refine k_v (wn := (ws_X7_putAll cI cJ cB a0 a_roots a_moved a_text a_out a_above a_below a_sum a_pointRows a_pointSorts a_kind a_left a_right a_many a_bits a_rows a_table a_row a_point thrown z48.2.1 rooted size outSize points takenOut z48.2.2.1 at_ fault open_ wrong by_ sort variable_ pointCount z48.2.2.2.1 z48.2.2.2.2.1 z48.2.2.2.2.2.1 z48.2.2.2.2.2.2.1 z48.2.2.2.2.2.2.2.1 z48.2.2.2.2.2.2.2.2.1 z48.2.2.2.2.2.2.2.2.2.1 z48.2.2.2.2.2.2.2.2.2.2 point)) (As := [.int (left_ x1.toNatClampNeg)]) (rest := []) F hNw hK hP hD hS hA (ih_X7_putAll a0 a_roots a_moved a_text a_out a_above a_below a_sum a_pointRows a_pointSorts a_kind a_left a_right a_many a_bits a_rows a_table a_row a_point _ thrown used rooted size outSize points takenOut great at_ fault open_ wrong by_ sort variable_ pointCount kind left_ right_ many bits rows table row point (left_ x1.toNatClampNeg) hz48) wm_1318 cv_X7_putAll [0, 1, 2, 3, 4, 5, 6, 7, 8, 9] [] [0, 1, 2, 3, 4, 5, 6, 7, 8, 9] (⟨rfl, rfl, rfl, by decide, rfl⟩ : Ix [0, 1, 2, 3, 4, 5, 6, 7, 8, 9] [] [0, 1, 2, 3, 4, 5, 6, 7, 8, 9] 10) rfl (hN_of 0 10 (by decide +kernel) rfl (by decide +kernel) rfl) rfl rfl rfl rfl ⟨rfl, rfl, by show 4 + d + 1 ≤ 4 + (d + 1); omega, by show 8 + (4 + 11) + (105 + 23 * d) ≤ 105 + 23 * (d + 1); omega⟩ hl.1 rfl (Nat.le_of_ble_eq_true rfl) ⟨Nat.zero_le _, Nat.zero_le _⟩ dX7_putAll_48 (fun H locs hP hD hS => ?_)
        refine lv_istore_n (lv' := [(2, .int z48.1), (0, .ref a0), (1, .int x1)]) hx hb dX7_putAll_51 rfl hl (by decide) rfl (fun ls hl => ?_)
        refine lv_aload_n hx hb dX7_putAll_52 rfl (lv_at hl 1 rfl) ?_
        refine lv_aload_n hx hb dX7_putAll_53 rfl (lv_at hl 1 rfl) ?_
        refine r_get F hK hP 0 3 rfl inW_X7 wm_1095 rfl (by decide) rfl dX7_putAll_54 ?_
        refine lv_iload_n hx hb dX7_putAll_57 rfl (lv_at hl 2 rfl) ?_
        obtain ⟨hi58, h⟩ := o_ix h
        refine va_iald hx hb hK hP 3 0 rfl rfl hi58 dX7_putAll_58 ?_
        obtain ⟨z59, hz59, h⟩ := o_b h
        refine k_v (wn := (ws_X7_putAll cI cJ cB a0 a_roots a_moved a_text a_out a_above a_below a_sum a_pointRows a_pointSorts a_kind a_left a_right a_many a_bits a_rows a_table a_row a_point thrown z59.2.1 rooted size outSize points takenOut z59.2.2.1 at_ fault open_ wrong by_ sort variable_ pointCount z59.2.2.2.1 z59.2.2.2.2.1 z59.2.2.2.2.2.1 z59.2.2.2.2.2.2.1 z59.2.2.2.2.2.2.2.1 z59.2.2.2.2.2.2.2.2.1 z59.2.2.2.2.2.2.2.2.2.1 z59.2.2.2.2.2.2.2.2.2.2 point)) (As := [.int (z48.2.2.2.2.2.1 x1.toNatClampNeg)]) (rest := []) F hNw hK hP hD hS hA (ih_X7_putAll a0 a_roots a_moved a_text a_out a_above a_below a_sum a_pointRows a_pointSorts a_kind a_left a_right a_many a_bits a_rows a_table a_row a_point _ thrown z48.2.1 rooted size outSize points takenOut z48.2.2.1 at_ fault open_ wrong by_ sort variable_ pointCount z48.2.2.2.1 z48.2.2.2.2.1 z48.2.2.2.2.2.1 z48.2.2.2.2.2.2.1 z48.2.2.2.2.2.2.2.1 z48.2.2.2.2.2.2.2.2.1 z48.2.2.2.2.2.2.2.2.2.1 z48.2.2.2.2.2.2.2.2.2.2 point (z48.2.2.2.2.2.1 x1.toNatClampNeg) hz59) wm_1318 cv_X7_putAll [0, 1, 2, 3, 4, 5, 6, 7, 8, 9] [] [0, 1, 2, 3, 4, 5, 6, 7, 8, 9] (⟨rfl, rfl, rfl, by decide, rfl⟩ : Ix [0, 1, 2, 3, 4, 5, 6, 7, 8, 9] [] [0, 1, 2, 3, 4, 5, 6, 7, 8, 9] 10) rfl (hN_of 0 10 (by decide +kernel) rfl (by decide +kernel) rfl) rfl rfl rfl rfl ⟨rfl, rfl, by show 4 + d + 1 ≤ 4 + (d + 1); omega, by show 8 + (4 + 11) + (105 + 23 * d) ≤ 105 + 23 * (d + 1); omega⟩ hl.1 rfl (Nat.le_of_ble_eq_true rfl) ⟨Nat.zero_le _, Nat.zero_le _⟩ dX7_putAll_59 (fun H locs hP hD hS => ?_)
        refine lv_istore_n (lv' := [(3, .int z59.1), (2, .int z48.1), (0, .ref a0), (1, .int x1)]) hx hb dX7_putAll_62 rfl hl (by decide) rfl (fun ls hl => ?_)
        refine lv_aload_n hx hb dX7_putAll_63 rfl (lv_at hl 2 rfl) ?_
        refine r_get F hK hP 0 20 rfl inW_X7 wm_1112 rfl (by decide) rfl dX7_putAll_64 ?_
        refine lv_if_eq (tgt := 74) hx hb dX7_putAll_67 (by decide) (fun c67 => ?_) (fun c67 => ?_)
        · have h := o_t c67 h
          refine lv_aload_n hx hb dX7_putAll_74 rfl (lv_at hl 2 rfl) ?_
          refine lv_aload_n hx hb dX7_putAll_75 rfl (lv_at hl 2 rfl) ?_
          refine r_get F hK hP 0 1 rfl inW_X7 wm_1093 rfl (by decide) rfl dX7_putAll_76 ?_
          refine lv_iload_n hx hb dX7_putAll_79 rfl (lv_at hl 3 rfl) ?_
          obtain ⟨hi80, h⟩ := o_ix h
          refine va_iald hx hb hK hP 1 0 rfl rfl hi80 dX7_putAll_80 ?_
          refine lv_iconst (v := 3) hx hb dX7_putAll_81 (by decide) ?_
          refine lv_icmp_ne (tgt := 89) hx hb dX7_putAll_82 (by decide) (fun c82 => ?_) (fun c82 => ?_)
          · have h := o_f c82 h
            refine lv_iconst (v := 0) hx hb dX7_putAll_89 (by decide) ?_
            exact w_X7_putAll_90 CX hK hsz (ih_X7_putAll := ih_X7_putAll) z59.2.1 z59.2.2.1 z59.2.2.2.1 z59.2.2.2.2.1 z59.2.2.2.2.2.1 z59.2.2.2.2.2.2.1 z59.2.2.2.2.2.2.2.1 z59.2.2.2.2.2.2.2.2.1 z59.2.2.2.2.2.2.2.2.2.1 z59.2.2.2.2.2.2.2.2.2.2 z48.1 z59.1 0 _ _ _ h hP hD hS (lv_sub hl [1, 0] rfl)
          · have h := o_t c82 h
            refine lv_iconst (v := 1) hx hb dX7_putAll_85 (by decide) ?_
            refine lv_goto (tgt := 90) hx hb dX7_putAll_86 (by decide) ?_
            exact w_X7_putAll_90 CX hK hsz (ih_X7_putAll := ih_X7_putAll) z59.2.1 z59.2.2.1 z59.2.2.2.1 z59.2.2.2.2.1 z59.2.2.2.2.2.1 z59.2.2.2.2.2.2.1 z59.2.2.2.2.2.2.2.1 z59.2.2.2.2.2.2.2.2.1 z59.2.2.2.2.2.2.2.2.2.1 z59.2.2.2.2.2.2.2.2.2.2 z48.1 z59.1 1 _ _ _ h hP hD hS (lv_sub hl [1, 0] rfl)
        · have h := o_f c67 h
          refine lv_iconst (v := 0) hx hb dX7_putAll_70 (by decide) ?_
          refine lv_goto (tgt := 95) hx hb dX7_putAll_71 (by decide) ?_
          exact w_X7_putAll_95 CX hK hsz (ih_X7_putAll := ih_X7_putAll) z59.2.1 z59.2.2.1 z59.2.2.2.1 z59.2.2.2.2.1 z59.2.2.2.2.2.1 z59.2.2.2.2.2.2.1 z59.2.2.2.2.2.2.2.1 z59.2.2.2.2.2.2.2.2.1 z59.2.2.2.2.2.2.2.2.2.1 z59.2.2.2.2.2.2.2.2.2.2 0 _ _ _ h hP hD hS (lv_sub hl [] rfl)
      · have h := o_t c32 h
        refine lv_aload_n hx hb dX7_putAll_35 rfl (lv_at hl 0 rfl) ?_
        refine lv_iload_n hx hb dX7_putAll_36 rfl (lv_at hl 1 rfl) ?_
        obtain ⟨z37, hz37, h⟩ := o_b h
        refine k_v (wn := (ws_X7_putAll cI cJ cB a0 a_roots a_moved a_text a_out a_above a_below a_sum a_pointRows a_pointSorts a_kind a_left a_right a_many a_bits a_rows a_table a_row a_point thrown z37.2.1 rooted size outSize points takenOut z37.2.2.1 at_ fault open_ wrong by_ sort variable_ pointCount z37.2.2.2.1 z37.2.2.2.2.1 z37.2.2.2.2.2.1 z37.2.2.2.2.2.2.1 z37.2.2.2.2.2.2.2.1 z37.2.2.2.2.2.2.2.2.1 z37.2.2.2.2.2.2.2.2.2.1 z37.2.2.2.2.2.2.2.2.2.2 point)) (As := [.int x1]) (rest := []) F hNw hK hP hD hS hA (c_X7_put l D cI cJ cB a0 a_roots a_moved a_text a_out a_above a_below a_sum a_pointRows a_pointSorts a_kind a_left a_right a_many a_bits a_rows a_table a_row a_point _ thrown used rooted size outSize points takenOut great at_ fault open_ wrong by_ sort variable_ pointCount kind left_ right_ many bits rows table row point x1 N hz37) wm_1322 cv_X7_put [0, 1, 2, 3, 4, 5, 6, 7, 8, 9] [] [0, 1, 2, 3, 4, 5, 6, 7, 8, 9] (⟨rfl, rfl, rfl, by decide, rfl⟩ : Ix [0, 1, 2, 3, 4, 5, 6, 7, 8, 9] [] [0, 1, 2, 3, 4, 5, 6, 7, 8, 9] 10) rfl (hN_of 0 10 (by decide +kernel) rfl (by decide +kernel) rfl) rfl rfl rfl rfl ⟨rfl, rfl, by show 3 + 1 ≤ 4 + (d + 1); omega, by show 8 + (5 + 11) + 81 ≤ 105 + 23 * (d + 1); omega⟩ hl.1 rfl (Nat.le_of_ble_eq_true rfl) ⟨Nat.zero_le _, Nat.zero_le _⟩ dX7_putAll_37 (fun H locs hP hD hS => ?_)
        obtain rfl := Option.some.inj h
        exact r_ret (v := z37.1) F hr hlk rfl dX7_putAll_40 hsz hP hD hS
    · have h := o_f c20 h
      exact w_X7_putAll_23 CX hK hsz (ih_X7_putAll := ih_X7_putAll) used great kind left_ right_ many bits rows table row x1 _ _ _ h hP hD hS (lv_sub hl [1] rfl)
def fg_putAll (N : Nat) : Nat → (Int32 → Int32 → Int64 → Int32 → Int32 → (Nat → Int32) → (Nat → Int32) → (Nat → Int32) → (Nat → Int32) → (Nat → Int32) → (Nat → Int32) → (Nat → Int32) → (Nat → Int64) → (Nat → Int64) → Int32 → Option (Int32 × (Int32) × (Int32) × (Nat → Int32) × (Nat → Int32) × (Nat → Int32) × (Nat → Int32) × (Nat → Int32) × (Nat → Int32) × (Nat → Int32) × (Nat → Int64)))
  | 0 => fun _ _ _ _ _ _ _ _ _ _ _ _ _ _ _ => none
  | d + 1 => F_X7_putAll (fg_putAll N d) N
theorem cg_putAll (l : Launch) (D : va_G) (cI cJ cB : ClassId) (N : Nat) : ∀ d : Nat, CP_X7_putAll l D cI cJ cB (rmg_putAll d) (fg_putAll N d) := by
  intro d
  induction d with
  | zero =>
    exact (by intro a0 a_roots a_moved a_text a_out a_above a_below a_sum a_pointRows a_pointSorts a_kind a_left a_right a_many a_bits a_rows a_table a_row a_point sz thrown used rooted size outSize points takenOut great at_ fault open_ wrong by_ sort variable_ pointCount kind left_ right_ many bits rows table row point x1 z h; cases h)
  | succ d ih =>
    exact cF_X7_putAll l D cI cJ cB N d ih
def f_X7_putAll (N : Nat) (used : Int32) (great : Int32) (by_ : Int64) (sort : Int32) (variable_ : Int32) (kind : Nat → Int32) (left_ : Nat → Int32) (right_ : Nat → Int32) (many : Nat → Int32) (bits : Nat → Int32) (rows : Nat → Int32) (table : Nat → Int32) (row : Nat → Int64) (point : Nat → Int64) (x1 : Int32) : Option (Int32 × (Int32) × (Int32) × (Nat → Int32) × (Nat → Int32) × (Nat → Int32) × (Nat → Int32) × (Nat → Int32) × (Nat → Int32) × (Nat → Int32) × (Nat → Int64)) := (fg_putAll N 450) used great by_ sort variable_ kind left_ right_ many bits rows table row point x1
abbrev rm_X7_putAll : Room := { frames := 454, cells := 0, slots := 0, locals := 10455 }
theorem c_X7_putAll (l : Launch) (D : va_G) (cI cJ cB : ClassId) (a0 a_roots a_moved a_text a_out a_above a_below a_sum a_pointRows a_pointSorts a_kind a_left a_right a_many a_bits a_rows a_table a_row a_point : Nat) (sz : Nat) (thrown : Int32) (used : Int32) (rooted : Int32) (size : Int32) (outSize : Int32) (points : Int32) (takenOut : Int32) (great : Int32) (at_ : Int32) (fault : Int32) (open_ : Int32) (wrong : Int32) (by_ : Int64) (sort : Int32) (variable_ : Int32) (pointCount : Int32) (kind : Nat → Int32) (left_ : Nat → Int32) (right_ : Nat → Int32) (many : Nat → Int32) (bits : Nat → Int32) (rows : Nat → Int32) (table : Nat → Int32) (row : Nat → Int64) (point : Nat → Int64) (x1 : Int32) (N : Nat) {z : Int32 × (Int32) × (Int32) × (Nat → Int32) × (Nat → Int32) × (Nat → Int32) × (Nat → Int32) × (Nat → Int32) × (Nat → Int32) × (Nat → Int32) × (Nat → Int64)} (h : f_X7_putAll N used great by_ sort variable_ kind left_ right_ many bits rows table row point x1 = some z) : Mg l yX7_putAll cX7_putAll 4 (some .int) rm_X7_putAll D (ty0 cI cJ cB) [.ref a0, .int x1] sz (ws_X7_putAll cI cJ cB a0 a_roots a_moved a_text a_out a_above a_below a_sum a_pointRows a_pointSorts a_kind a_left a_right a_many a_bits a_rows a_table a_row a_point thrown used rooted size outSize points takenOut great at_ fault open_ wrong by_ sort variable_ pointCount kind left_ right_ many bits rows table row point) (some (.int z.1)) (ws_X7_putAll cI cJ cB a0 a_roots a_moved a_text a_out a_above a_below a_sum a_pointRows a_pointSorts a_kind a_left a_right a_many a_bits a_rows a_table a_row a_point thrown z.2.1 rooted size outSize points takenOut z.2.2.1 at_ fault open_ wrong by_ sort variable_ pointCount z.2.2.2.1 z.2.2.2.2.1 z.2.2.2.2.2.1 z.2.2.2.2.2.2.1 z.2.2.2.2.2.2.2.1 z.2.2.2.2.2.2.2.2.1 z.2.2.2.2.2.2.2.2.2.1 z.2.2.2.2.2.2.2.2.2.2 point) :=
  (cg_putAll l D cI cJ cB N 450) a0 a_roots a_moved a_text a_out a_above a_below a_sum a_pointRows a_pointSorts a_kind a_left a_right a_many a_bits a_rows a_table a_row a_point sz thrown used rooted size outSize points takenOut great at_ fault open_ wrong by_ sort variable_ pointCount kind left_ right_ many bits rows table row point x1 h
abbrev rmg_valued (d : Nat) : Room := { frames := 3 + d, cells := 0, slots := 0, locals := 81 + 28 * d }
abbrev ws_X7_valued (cI cJ cB : ClassId) (a0 a_roots a_moved a_text a_out a_sum a_point a_pointRows a_pointSorts a_kind a_left a_right a_many a_bits a_rows a_table a_above a_below a_row : Nat) (thrown : Int32) (used : Int32) (rooted : Int32) (size : Int32) (outSize : Int32) (points : Int32) (takenOut : Int32) (great : Int32) (at_ : Int32) (fault : Int32) (open_ : Int32) (wrong : Int32) (by_ : Int64) (sort : Int32) (variable_ : Int32) (pointCount : Int32) (kind : Nat → Int32) (left_ : Nat → Int32) (right_ : Nat → Int32) (many : Nat → Int32) (bits : Nat → Int32) (rows : Nat → Int32) (table : Nat → Int32) (above : Nat → Int32) (below_ : Nat → Int32) (row : Nat → Int64) : va_W := [(a0, .inr (9, [.int thrown, .ref a_kind, .ref a_left, .ref a_right, .ref a_many, .ref a_bits, .ref a_rows, .ref a_table, .int used, .ref a_roots, .int rooted, .ref a_moved, .ref a_text, .int size, .ref a_out, .int outSize, .ref a_above, .ref a_below, .int points, .int takenOut, .int great, .ref a_row, .int at_, .int fault, .int open_, .int wrong, .ref a_sum, .ref a_point, .long by_, .int sort, .int variable_, .ref a_pointRows, .ref a_pointSorts, .int pointCount])), (a_kind, .inl (cI, 24000, .inl kind)), (a_left, .inl (cI, 24000, .inl left_)), (a_right, .inl (cI, 24000, .inl right_)), (a_many, .inl (cI, 24000, .inl many)), (a_bits, .inl (cI, 24000, .inl bits)), (a_rows, .inl (cI, 216000, .inl rows)), (a_table, .inl (cI, 65536, .inl table)), (a_above, .inl (cI, 8, .inl above)), (a_below, .inl (cI, 8, .inl below_)), (a_row, .inl (cJ, 9, .inr (.inl row)))]
def CP_X7_valued (l : Launch) (D : va_G) (cI cJ cB : ClassId) (rm : Room) (f : Int32 → Int32 → Int32 → (Nat → Int32) → (Nat → Int32) → (Nat → Int32) → (Nat → Int32) → (Nat → Int32) → (Nat → Int32) → (Nat → Int32) → (Nat → Int32) → (Nat → Int32) → (Nat → Int64) → Int32 → Option (Int32 × (Int32) × (Int32) × (Nat → Int32) × (Nat → Int32) × (Nat → Int32) × (Nat → Int32) × (Nat → Int32) × (Nat → Int32) × (Nat → Int32) × (Nat → Int64))) : Prop := ∀ (a0 a_roots a_moved a_text a_out a_sum a_point a_pointRows a_pointSorts a_kind a_left a_right a_many a_bits a_rows a_table a_above a_below a_row : Nat) (sz : Nat) (thrown : Int32) (used : Int32) (rooted : Int32) (size : Int32) (outSize : Int32) (points : Int32) (takenOut : Int32) (great : Int32) (at_ : Int32) (fault : Int32) (open_ : Int32) (wrong : Int32) (by_ : Int64) (sort : Int32) (variable_ : Int32) (pointCount : Int32) (kind : Nat → Int32) (left_ : Nat → Int32) (right_ : Nat → Int32) (many : Nat → Int32) (bits : Nat → Int32) (rows : Nat → Int32) (table : Nat → Int32) (above : Nat → Int32) (below_ : Nat → Int32) (row : Nat → Int64) (x1 : Int32) {z : Int32 × (Int32) × (Int32) × (Nat → Int32) × (Nat → Int32) × (Nat → Int32) × (Nat → Int32) × (Nat → Int32) × (Nat → Int32) × (Nat → Int32) × (Nat → Int64)}, f used great variable_ kind left_ right_ many bits rows table above below_ row x1 = some z → Mg l yX7_valued cX7_valued 9 (some .int) rm D (ty0 cI cJ cB) [.ref a0, .int x1] sz (ws_X7_valued cI cJ cB a0 a_roots a_moved a_text a_out a_sum a_point a_pointRows a_pointSorts a_kind a_left a_right a_many a_bits a_rows a_table a_above a_below a_row thrown used rooted size outSize points takenOut great at_ fault open_ wrong by_ sort variable_ pointCount kind left_ right_ many bits rows table above below_ row) (some (.int z.1)) (ws_X7_valued cI cJ cB a0 a_roots a_moved a_text a_out a_sum a_point a_pointRows a_pointSorts a_kind a_left a_right a_many a_bits a_rows a_table a_above a_below a_row thrown z.2.1 rooted size outSize points takenOut z.2.2.1 at_ fault open_ wrong by_ sort variable_ pointCount z.2.2.2.1 z.2.2.2.2.1 z.2.2.2.2.2.1 z.2.2.2.2.2.2.1 z.2.2.2.2.2.2.2.1 z.2.2.2.2.2.2.2.2.1 z.2.2.2.2.2.2.2.2.2.1 above below_ z.2.2.2.2.2.2.2.2.2.2)
section G_X7_valued
def f_X7_valued_23 (R_X7_valued : Int32 → Int32 → Int32 → (Nat → Int32) → (Nat → Int32) → (Nat → Int32) → (Nat → Int32) → (Nat → Int32) → (Nat → Int32) → (Nat → Int32) → (Nat → Int32) → (Nat → Int32) → (Nat → Int64) → Int32 → Option (Int32 × (Int32) × (Int32) × (Nat → Int32) × (Nat → Int32) × (Nat → Int32) × (Nat → Int32) × (Nat → Int32) × (Nat → Int32) × (Nat → Int32) × (Nat → Int64))) (N : Nat) (used : Int32) (great : Int32) (variable_ : Int32) (kind : Nat → Int32) (left_ : Nat → Int32) (right_ : Nat → Int32) (many : Nat → Int32) (bits : Nat → Int32) (rows : Nat → Int32) (table : Nat → Int32) (above : Nat → Int32) (below_ : Nat → Int32) (row : Nat → Int64) (y1 : Int32) : Option (Int32 × (Int32) × (Int32) × (Nat → Int32) × (Nat → Int32) × (Nat → Int32) × (Nat → Int32) × (Nat → Int32) × (Nat → Int32) × (Nat → Int32) × (Nat → Int64)) := some (y1, used, great, kind, left_, right_, many, bits, rows, table, row)
def f_X7_valued_136 (R_X7_valued : Int32 → Int32 → Int32 → (Nat → Int32) → (Nat → Int32) → (Nat → Int32) → (Nat → Int32) → (Nat → Int32) → (Nat → Int32) → (Nat → Int32) → (Nat → Int32) → (Nat → Int32) → (Nat → Int64) → Int32 → Option (Int32 × (Int32) × (Int32) × (Nat → Int32) × (Nat → Int32) × (Nat → Int32) × (Nat → Int32) × (Nat → Int32) × (Nat → Int32) × (Nat → Int32) × (Nat → Int64))) (K78 : Int32 → Int32 → Int32 → (Nat → Int32) → (Nat → Int32) → (Nat → Int32) → (Nat → Int32) → (Nat → Int32) → (Nat → Int32) → (Nat → Int32) → (Nat → Int32) → (Nat → Int32) → (Nat → Int64) → Int32 → Int64 → Int64 → Int64 → Int32 → Option (Int32 × (Int32) × (Int32) × (Nat → Int32) × (Nat → Int32) × (Nat → Int32) × (Nat → Int32) × (Nat → Int32) × (Nat → Int32) × (Nat → Int32) × (Nat → Int64))) (N : Nat) (used : Int32) (great : Int32) (variable_ : Int32) (kind : Nat → Int32) (left_ : Nat → Int32) (right_ : Nat → Int32) (many : Nat → Int32) (bits : Nat → Int32) (rows : Nat → Int32) (table : Nat → Int32) (above : Nat → Int32) (below_ : Nat → Int32) (row : Nat → Int64) (y1 : Int32) (y2 : Int64) (y4 : Int64) (y6 : Int64) (y8 : Int32) (s1 : Int32) (s2 : Int64) : Option (Int32 × (Int32) × (Int32) × (Nat → Int32) × (Nat → Int32) × (Nat → Int32) × (Nat → Int32) × (Nat → Int32) × (Nat → Int32) × (Nat → Int32) × (Nat → Int64)) := ix s1 9 (K78 used great variable_ kind left_ right_ many bits rows table above below_ (vp_updL row s1.toNatClampNeg s2) y1 y2 y4 y6 (y8 + 1))
def f_X7_valued_135 (R_X7_valued : Int32 → Int32 → Int32 → (Nat → Int32) → (Nat → Int32) → (Nat → Int32) → (Nat → Int32) → (Nat → Int32) → (Nat → Int32) → (Nat → Int32) → (Nat → Int32) → (Nat → Int32) → (Nat → Int64) → Int32 → Option (Int32 × (Int32) × (Int32) × (Nat → Int32) × (Nat → Int32) × (Nat → Int32) × (Nat → Int32) × (Nat → Int32) × (Nat → Int32) × (Nat → Int32) × (Nat → Int64))) (K78 : Int32 → Int32 → Int32 → (Nat → Int32) → (Nat → Int32) → (Nat → Int32) → (Nat → Int32) → (Nat → Int32) → (Nat → Int32) → (Nat → Int32) → (Nat → Int32) → (Nat → Int32) → (Nat → Int64) → Int32 → Int64 → Int64 → Int64 → Int32 → Option (Int32 × (Int32) × (Int32) × (Nat → Int32) × (Nat → Int32) × (Nat → Int32) × (Nat → Int32) × (Nat → Int32) × (Nat → Int32) × (Nat → Int32) × (Nat → Int64))) (N : Nat) (used : Int32) (great : Int32) (variable_ : Int32) (kind : Nat → Int32) (left_ : Nat → Int32) (right_ : Nat → Int32) (many : Nat → Int32) (bits : Nat → Int32) (rows : Nat → Int32) (table : Nat → Int32) (above : Nat → Int32) (below_ : Nat → Int32) (row : Nat → Int64) (y1 : Int32) (y2 : Int64) (y4 : Int64) (y6 : Int64) (y8 : Int32) (s1 : Int32) (s2 : Int64) (s3 : Int64) : Option (Int32 × (Int32) × (Int32) × (Nat → Int32) × (Nat → Int32) × (Nat → Int32) × (Nat → Int32) × (Nat → Int32) × (Nat → Int32) × (Nat → Int32) × (Nat → Int64)) := f_X7_valued_136 R_X7_valued K78 N used great variable_ kind left_ right_ many bits rows table above below_ row y1 y2 y4 y6 y8 s1 (s2 + s3)
def f_X7_valued_78 (R_X7_valued : Int32 → Int32 → Int32 → (Nat → Int32) → (Nat → Int32) → (Nat → Int32) → (Nat → Int32) → (Nat → Int32) → (Nat → Int32) → (Nat → Int32) → (Nat → Int32) → (Nat → Int32) → (Nat → Int64) → Int32 → Option (Int32 × (Int32) × (Int32) × (Nat → Int32) × (Nat → Int32) × (Nat → Int32) × (Nat → Int32) × (Nat → Int32) × (Nat → Int32) × (Nat → Int32) × (Nat → Int64))) (N : Nat) : Nat → Int32 → Int32 → Int32 → (Nat → Int32) → (Nat → Int32) → (Nat → Int32) → (Nat → Int32) → (Nat → Int32) → (Nat → Int32) → (Nat → Int32) → (Nat → Int32) → (Nat → Int32) → (Nat → Int64) → Int32 → Int64 → Int64 → Int64 → Int32 → Option (Int32 × (Int32) × (Int32) × (Nat → Int32) × (Nat → Int32) × (Nat → Int32) × (Nat → Int32) × (Nat → Int32) × (Nat → Int32) × (Nat → Int32) × (Nat → Int64))
  | 0 => fun _ _ _ _ _ _ _ _ _ _ _ _ _ _ _ _ _ _ => none
  | n + 1 => fun used great variable_ kind left_ right_ many bits rows table above below_ row y1 y2 y4 y6 y8 => ifb (9 ≤ y8) (ix y1 24000 ((f_X7_atom N used great kind left_ right_ many bits rows table row (left_ y1.toNatClampNeg)).bind (fun z150 => some (z150.1, z150.2.1, z150.2.2.1, z150.2.2.2.1, z150.2.2.2.2.1, z150.2.2.2.2.2.1, z150.2.2.2.2.2.2.1, z150.2.2.2.2.2.2.2.1, z150.2.2.2.2.2.2.2.2.1, z150.2.2.2.2.2.2.2.2.2.1, z150.2.2.2.2.2.2.2.2.2.2)))) (ifb (y8 = variable_) (f_X7_valued_136 R_X7_valued (f_X7_valued_78 R_X7_valued N n) N used great variable_ kind left_ right_ many bits rows table above below_ row y1 y2 y4 y6 y8 y8 0) (ix ((9 * y1) + y8) 216000 (ifb (y8 = 8) (f_X7_valued_135 R_X7_valued (f_X7_valued_78 R_X7_valued N n) N used great variable_ kind left_ right_ many bits rows table above below_ row y1 y2 y4 y6 y8 y8 (y4 * ((rows ((9 * y1) + y8).toNatClampNeg).toInt64)) (y2 * y6)) (f_X7_valued_135 R_X7_valued (f_X7_valued_78 R_X7_valued N n) N used great variable_ kind left_ right_ many bits rows table above below_ row y1 y2 y4 y6 y8 y8 (y4 * ((rows ((9 * y1) + y8).toNatClampNeg).toInt64)) 0))))
def f_X7_valued_212 (R_X7_valued : Int32 → Int32 → Int32 → (Nat → Int32) → (Nat → Int32) → (Nat → Int32) → (Nat → Int32) → (Nat → Int32) → (Nat → Int32) → (Nat → Int32) → (Nat → Int32) → (Nat → Int32) → (Nat → Int64) → Int32 → Option (Int32 × (Int32) × (Int32) × (Nat → Int32) × (Nat → Int32) × (Nat → Int32) × (Nat → Int32) × (Nat → Int32) × (Nat → Int32) × (Nat → Int32) × (Nat → Int64))) (N : Nat) (used : Int32) (great : Int32) (variable_ : Int32) (kind : Nat → Int32) (left_ : Nat → Int32) (right_ : Nat → Int32) (many : Nat → Int32) (bits : Nat → Int32) (rows : Nat → Int32) (table : Nat → Int32) (above : Nat → Int32) (below_ : Nat → Int32) (row : Nat → Int64) (s0 : Int32) : Option (Int32 × (Int32) × (Int32) × (Nat → Int32) × (Nat → Int32) × (Nat → Int32) × (Nat → Int32) × (Nat → Int32) × (Nat → Int32) × (Nat → Int32) × (Nat → Int64)) := some (s0, used, great, kind, left_, right_, many, bits, rows, table, row)
def f_X7_valued_202 (R_X7_valued : Int32 → Int32 → Int32 → (Nat → Int32) → (Nat → Int32) → (Nat → Int32) → (Nat → Int32) → (Nat → Int32) → (Nat → Int32) → (Nat → Int32) → (Nat → Int32) → (Nat → Int32) → (Nat → Int64) → Int32 → Option (Int32 × (Int32) × (Int32) × (Nat → Int32) × (Nat → Int32) × (Nat → Int32) × (Nat → Int32) × (Nat → Int32) × (Nat → Int32) × (Nat → Int32) × (Nat → Int64))) (N : Nat) (used : Int32) (great : Int32) (variable_ : Int32) (kind : Nat → Int32) (left_ : Nat → Int32) (right_ : Nat → Int32) (many : Nat → Int32) (bits : Nat → Int32) (rows : Nat → Int32) (table : Nat → Int32) (above : Nat → Int32) (below_ : Nat → Int32) (row : Nat → Int64) (y1 : Int32) (y2 : Int32) (s1 : Int32) : Option (Int32 × (Int32) × (Int32) × (Nat → Int32) × (Nat → Int32) × (Nat → Int32) × (Nat → Int32) × (Nat → Int32) × (Nat → Int32) × (Nat → Int32) × (Nat → Int64)) := ix y1 24000 ((f_X7_quantified N used kind left_ right_ many bits rows table row s1 (left_ y1.toNatClampNeg) y2).bind (fun z209 => f_X7_valued_212 R_X7_valued N z209.2.1 great variable_ z209.2.2.1 z209.2.2.2.1 z209.2.2.2.2.1 z209.2.2.2.2.2.1 z209.2.2.2.2.2.2.1 z209.2.2.2.2.2.2.2.1 z209.2.2.2.2.2.2.2.2 above below_ row z209.1))
def f_X7_valued_267 (R_X7_valued : Int32 → Int32 → Int32 → (Nat → Int32) → (Nat → Int32) → (Nat → Int32) → (Nat → Int32) → (Nat → Int32) → (Nat → Int32) → (Nat → Int32) → (Nat → Int32) → (Nat → Int32) → (Nat → Int64) → Int32 → Option (Int32 × (Int32) × (Int32) × (Nat → Int32) × (Nat → Int32) × (Nat → Int32) × (Nat → Int32) × (Nat → Int32) × (Nat → Int32) × (Nat → Int32) × (Nat → Int64))) (N : Nat) (used : Int32) (great : Int32) (variable_ : Int32) (kind : Nat → Int32) (left_ : Nat → Int32) (right_ : Nat → Int32) (many : Nat → Int32) (bits : Nat → Int32) (rows : Nat → Int32) (table : Nat → Int32) (above : Nat → Int32) (below_ : Nat → Int32) (row : Nat → Int64) (s0 : Int32) : Option (Int32 × (Int32) × (Int32) × (Nat → Int32) × (Nat → Int32) × (Nat → Int32) × (Nat → Int32) × (Nat → Int32) × (Nat → Int32) × (Nat → Int32) × (Nat → Int64)) := some (s0, used, great, kind, left_, right_, many, bits, rows, table, row)
def f_X7_valued_262 (R_X7_valued : Int32 → Int32 → Int32 → (Nat → Int32) → (Nat → Int32) → (Nat → Int32) → (Nat → Int32) → (Nat → Int32) → (Nat → Int32) → (Nat → Int32) → (Nat → Int32) → (Nat → Int32) → (Nat → Int64) → Int32 → Option (Int32 × (Int32) × (Int32) × (Nat → Int32) × (Nat → Int32) × (Nat → Int32) × (Nat → Int32) × (Nat → Int32) × (Nat → Int32) × (Nat → Int32) × (Nat → Int64))) (N : Nat) (used : Int32) (great : Int32) (variable_ : Int32) (kind : Nat → Int32) (left_ : Nat → Int32) (right_ : Nat → Int32) (many : Nat → Int32) (bits : Nat → Int32) (rows : Nat → Int32) (table : Nat → Int32) (above : Nat → Int32) (below_ : Nat → Int32) (row : Nat → Int64) (y2 : Int32) (y3 : Int32) (s1 : Int32) : Option (Int32 × (Int32) × (Int32) × (Nat → Int32) × (Nat → Int32) × (Nat → Int32) × (Nat → Int32) × (Nat → Int32) × (Nat → Int32) × (Nat → Int32) × (Nat → Int64)) := (f_X7_both N used kind left_ right_ many bits rows table row s1 y2 y3).bind (fun z264 => f_X7_valued_267 R_X7_valued N z264.2.1 great variable_ z264.2.2.1 z264.2.2.2.1 z264.2.2.2.2.1 z264.2.2.2.2.2.1 z264.2.2.2.2.2.2.1 z264.2.2.2.2.2.2.2.1 z264.2.2.2.2.2.2.2.2 above below_ row z264.1)
def F_X7_valued (R_X7_valued : Int32 → Int32 → Int32 → (Nat → Int32) → (Nat → Int32) → (Nat → Int32) → (Nat → Int32) → (Nat → Int32) → (Nat → Int32) → (Nat → Int32) → (Nat → Int32) → (Nat → Int32) → (Nat → Int64) → Int32 → Option (Int32 × (Int32) × (Int32) × (Nat → Int32) × (Nat → Int32) × (Nat → Int32) × (Nat → Int32) × (Nat → Int32) × (Nat → Int32) × (Nat → Int32) × (Nat → Int64))) (N : Nat) (used : Int32) (great : Int32) (variable_ : Int32) (kind : Nat → Int32) (left_ : Nat → Int32) (right_ : Nat → Int32) (many : Nat → Int32) (bits : Nat → Int32) (rows : Nat → Int32) (table : Nat → Int32) (above : Nat → Int32) (below_ : Nat → Int32) (row : Nat → Int64) (x1 : Int32) : Option (Int32 × (Int32) × (Int32) × (Nat → Int32) × (Nat → Int32) × (Nat → Int32) × (Nat → Int32) × (Nat → Int32) × (Nat → Int32) × (Nat → Int32) × (Nat → Int64)) := ix x1 24000 (ifb ((((bits x1.toNatClampNeg) >>> (variable_ &&& 31)) &&& 1) = 0) (f_X7_valued_23 R_X7_valued N used great variable_ kind left_ right_ many bits rows table above below_ row x1) (ifb (great = 0) (ix x1 24000 (ifb ((kind x1.toNatClampNeg) = 2) (ix variable_ 8 (ix variable_ 8 (ix ((9 * x1) + variable_) 216000 (f_X7_valued_78 R_X7_valued N N used great variable_ kind left_ right_ many bits rows table above below_ row x1 ((above variable_.toNatClampNeg).toInt64) ((below_ variable_.toNatClampNeg).toInt64) ((rows ((9 * x1) + variable_).toNatClampNeg).toInt64) 0)))) (ix x1 24000 (ifb ((kind x1.toNatClampNeg) < 5) (ix x1 24000 ((R_X7_valued used great variable_ kind left_ right_ many bits rows table above below_ row (left_ x1.toNatClampNeg)).bind (fun z220 => ix x1 24000 ((R_X7_valued z220.2.1 z220.2.2.1 variable_ z220.2.2.2.1 z220.2.2.2.2.1 z220.2.2.2.2.2.1 z220.2.2.2.2.2.2.1 z220.2.2.2.2.2.2.2.1 z220.2.2.2.2.2.2.2.2.1 z220.2.2.2.2.2.2.2.2.2.1 above below_ z220.2.2.2.2.2.2.2.2.2.2 (z220.2.2.2.2.2.1 x1.toNatClampNeg)).bind (fun z231 => ifb (z231.2.2.1 = 0) (ix x1 24000 (ifb ((z231.2.2.2.1 x1.toNatClampNeg) = 3) (f_X7_valued_262 R_X7_valued N z231.2.1 z231.2.2.1 variable_ z231.2.2.2.1 z231.2.2.2.2.1 z231.2.2.2.2.2.1 z231.2.2.2.2.2.2.1 z231.2.2.2.2.2.2.2.1 z231.2.2.2.2.2.2.2.2.1 z231.2.2.2.2.2.2.2.2.2.1 above below_ z231.2.2.2.2.2.2.2.2.2.2 z220.1 z231.1 1) (f_X7_valued_262 R_X7_valued N z231.2.1 z231.2.2.1 variable_ z231.2.2.2.1 z231.2.2.2.2.1 z231.2.2.2.2.2.1 z231.2.2.2.2.2.2.1 z231.2.2.2.2.2.2.2.1 z231.2.2.2.2.2.2.2.2.1 z231.2.2.2.2.2.2.2.2.2.1 above below_ z231.2.2.2.2.2.2.2.2.2.2 z220.1 z231.1 0))) (f_X7_valued_267 R_X7_valued N z231.2.1 z231.2.2.1 variable_ z231.2.2.2.1 z231.2.2.2.2.1 z231.2.2.2.2.2.1 z231.2.2.2.2.2.2.1 z231.2.2.2.2.2.2.2.1 z231.2.2.2.2.2.2.2.2.1 z231.2.2.2.2.2.2.2.2.2.1 above below_ z231.2.2.2.2.2.2.2.2.2.2 0)))))) (ix x1 24000 ((R_X7_valued used great variable_ kind left_ right_ many bits rows table above below_ row (right_ x1.toNatClampNeg)).bind (fun z171 => ifb (z171.2.2.1 = 0) (ix x1 24000 (ifb ((z171.2.2.2.1 x1.toNatClampNeg) = 5) (f_X7_valued_202 R_X7_valued N z171.2.1 z171.2.2.1 variable_ z171.2.2.2.1 z171.2.2.2.2.1 z171.2.2.2.2.2.1 z171.2.2.2.2.2.2.1 z171.2.2.2.2.2.2.2.1 z171.2.2.2.2.2.2.2.2.1 z171.2.2.2.2.2.2.2.2.2.1 above below_ z171.2.2.2.2.2.2.2.2.2.2 x1 z171.1 1) (f_X7_valued_202 R_X7_valued N z171.2.1 z171.2.2.1 variable_ z171.2.2.2.1 z171.2.2.2.2.1 z171.2.2.2.2.2.1 z171.2.2.2.2.2.2.1 z171.2.2.2.2.2.2.2.1 z171.2.2.2.2.2.2.2.2.1 z171.2.2.2.2.2.2.2.2.2.1 above below_ z171.2.2.2.2.2.2.2.2.2.2 x1 z171.1 0))) (f_X7_valued_212 R_X7_valued N z171.2.1 z171.2.2.1 variable_ z171.2.2.2.1 z171.2.2.2.2.1 z171.2.2.2.2.2.1 z171.2.2.2.2.2.2.1 z171.2.2.2.2.2.2.2.1 z171.2.2.2.2.2.2.2.2.1 z171.2.2.2.2.2.2.2.2.2.1 above below_ z171.2.2.2.2.2.2.2.2.2.2 0)))))))) (f_X7_valued_23 R_X7_valued N used great variable_ kind left_ right_ many bits rows table above below_ row x1)))
variable {p : Program} {l : Launch} {e : Env} {s : State} {m : MethodId} {below : List Frame} {meth : Method} {c : Code} {args : Array Value} {x0 : Cond} {D : va_G} {cI cJ cB : ClassId} {sz N : Nat} {ws0 : va_W} {a0 a_roots a_moved a_text a_out a_sum a_point a_pointRows a_pointSorts a_kind a_left a_right a_many a_bits a_rows a_table a_above a_below a_row : Nat} {thrown : Int32} {rooted : Int32} {size : Int32} {outSize : Int32} {points : Int32} {takenOut : Int32} {at_ : Int32} {fault : Int32} {open_ : Int32} {wrong : Int32} {by_ : Int64} {sort : Int32} {variable_ : Int32} {pointCount : Int32} {above : Nat → Int32} {below_ : Nat → Int32} {z : Int32 × (Int32) × (Int32) × (Nat → Int32) × (Nat → Int32) × (Nat → Int32) × (Nat → Int32) × (Nat → Int32) × (Nat → Int32) × (Nat → Int32) × (Nat → Int64)} {d : Nat} {R_X7_valued : Int32 → Int32 → Int32 → (Nat → Int32) → (Nat → Int32) → (Nat → Int32) → (Nat → Int32) → (Nat → Int32) → (Nat → Int32) → (Nat → Int32) → (Nat → Int32) → (Nat → Int32) → (Nat → Int64) → Int32 → Option (Int32 × (Int32) × (Int32) × (Nat → Int32) × (Nat → Int32) × (Nat → Int32) × (Nat → Int32) × (Nat → Int32) × (Nat → Int32) × (Nat → Int32) × (Nat → Int64))}
set_option maxHeartbeats 4000000 in
set_option maxRecDepth 100000 in
theorem w_X7_valued_23 (CX : Cx p m c cX7_valued 9 s args x0 RX7 meth (some .int)) (hK : va_K D vwCl (ty0 cI cJ cB) s) (hsz : s.heap.size = sz) (ih_X7_valued : CP_X7_valued l D cI cJ cB (rmg_valued d) R_X7_valued) : ∀ (used : Int32) (great : Int32) (kind : Nat → Int32) (left_ : Nat → Int32) (right_ : Nat → Int32) (many : Nat → Int32) (bits : Nat → Int32) (rows : Nat → Int32) (table : Nat → Int32) (row : Nat → Int64) (y1 : Int32) (H : Heap) (locs : List Loc) (ls : Array Slot), f_X7_valued_23 R_X7_valued N used great variable_ kind left_ right_ many bits rows table above below_ row y1 = some z → va_P D vwCl (ws_X7_valued cI cJ cB a0 a_roots a_moved a_text a_out a_sum a_point a_pointRows a_pointSorts a_kind a_left a_right a_many a_bits a_rows a_table a_above a_below a_row thrown used rooted size outSize points takenOut great at_ fault open_ wrong by_ sort variable_ pointCount kind left_ right_ many bits rows table above below_ row) H → va_D (va_A ws0 sz) (ws_X7_valued cI cJ cB a0 a_roots a_moved a_text a_out a_sum a_point a_pointRows a_pointSorts a_kind a_left a_right a_many a_bits a_rows a_table a_above a_below a_row thrown used rooted size outSize points takenOut great at_ fault open_ wrong by_ sort variable_ pointCount kind left_ right_ many bits rows table above below_ row) → va_S (va_A ws0 sz) s.heap H locs → lv_has ls 9 [(1, .int y1)] → W p l e (rmg_valued (d + 1)) s m args below meth c H locs 0 0 (MQ below (gQ D sz ws0 (ws_X7_valued cI cJ cB a0 a_roots a_moved a_text a_out a_sum a_point a_pointRows a_pointSorts a_kind a_left a_right a_many a_bits a_rows a_table a_above a_below a_row thrown z.2.1 rooted size outSize points takenOut z.2.2.1 at_ fault open_ wrong by_ sort variable_ pointCount z.2.2.2.1 z.2.2.2.2.1 z.2.2.2.2.2.1 z.2.2.2.2.2.2.1 z.2.2.2.2.2.2.2.1 z.2.2.2.2.2.2.2.2.1 z.2.2.2.2.2.2.2.2.2.1 above below_ z.2.2.2.2.2.2.2.2.2.2) (some (.int z.1))) args s 0 0 (va_A ws0 sz)) (F0 m 23 ls []) := by
  obtain ⟨F, hr, hlk, hNw⟩ := id CX
  have hx := F.1
  have hb := F.2.1
  have hown := F.2.2.2.1
  have hA : ∀ q, s.heap.size ≤ q → va_A ws0 sz q := fun q hq => Or.inr (hsz ▸ hq)
  intro used great kind left_ right_ many bits rows table row y1 H locs ls h hP hD hS hl
  unfold f_X7_valued_23 at h
  refine lv_iload_n hx hb dX7_valued_23 rfl (lv_at hl 0 rfl) ?_
  obtain rfl := Option.some.inj h
  exact r_ret (v := y1) F hr hlk rfl dX7_valued_24 hsz hP hD hS
set_option maxHeartbeats 4000000 in
set_option maxRecDepth 100000 in
theorem w_X7_valued_136 (CX : Cx p m c cX7_valued 9 s args x0 RX7 meth (some .int)) (hK : va_K D vwCl (ty0 cI cJ cB) s) (hsz : s.heap.size = sz) (ih_X7_valued : CP_X7_valued l D cI cJ cB (rmg_valued d) R_X7_valued) {K78 : Int32 → Int32 → Int32 → (Nat → Int32) → (Nat → Int32) → (Nat → Int32) → (Nat → Int32) → (Nat → Int32) → (Nat → Int32) → (Nat → Int32) → (Nat → Int32) → (Nat → Int32) → (Nat → Int64) → Int32 → Int64 → Int64 → Int64 → Int32 → Option (Int32 × (Int32) × (Int32) × (Nat → Int32) × (Nat → Int32) × (Nat → Int32) × (Nat → Int32) × (Nat → Int32) × (Nat → Int32) × (Nat → Int32) × (Nat → Int64))} (hK78 : ∀ (used : Int32) (great : Int32) (kind : Nat → Int32) (left_ : Nat → Int32) (right_ : Nat → Int32) (many : Nat → Int32) (bits : Nat → Int32) (rows : Nat → Int32) (table : Nat → Int32) (row : Nat → Int64) (y1 : Int32) (y2 : Int64) (y4 : Int64) (y6 : Int64) (y8 : Int32) (H : Heap) (locs : List Loc) (ls : Array Slot), K78 used great variable_ kind left_ right_ many bits rows table above below_ row y1 y2 y4 y6 y8 = some z → va_P D vwCl (ws_X7_valued cI cJ cB a0 a_roots a_moved a_text a_out a_sum a_point a_pointRows a_pointSorts a_kind a_left a_right a_many a_bits a_rows a_table a_above a_below a_row thrown used rooted size outSize points takenOut great at_ fault open_ wrong by_ sort variable_ pointCount kind left_ right_ many bits rows table above below_ row) H → va_D (va_A ws0 sz) (ws_X7_valued cI cJ cB a0 a_roots a_moved a_text a_out a_sum a_point a_pointRows a_pointSorts a_kind a_left a_right a_many a_bits a_rows a_table a_above a_below a_row thrown used rooted size outSize points takenOut great at_ fault open_ wrong by_ sort variable_ pointCount kind left_ right_ many bits rows table above below_ row) → va_S (va_A ws0 sz) s.heap H locs → lv_has ls 9 [(0, .ref a0), (1, .int y1), (2, .long y2), (4, .long y4), (6, .long y6), (8, .int y8)] → W p l e (rmg_valued (d + 1)) s m args below meth c H locs 0 0 (MQ below (gQ D sz ws0 (ws_X7_valued cI cJ cB a0 a_roots a_moved a_text a_out a_sum a_point a_pointRows a_pointSorts a_kind a_left a_right a_many a_bits a_rows a_table a_above a_below a_row thrown z.2.1 rooted size outSize points takenOut z.2.2.1 at_ fault open_ wrong by_ sort variable_ pointCount z.2.2.2.1 z.2.2.2.2.1 z.2.2.2.2.2.1 z.2.2.2.2.2.2.1 z.2.2.2.2.2.2.2.1 z.2.2.2.2.2.2.2.2.1 z.2.2.2.2.2.2.2.2.2.1 above below_ z.2.2.2.2.2.2.2.2.2.2) (some (.int z.1))) args s 0 0 (va_A ws0 sz)) (F0 m 78 ls [])) : ∀ (used : Int32) (great : Int32) (kind : Nat → Int32) (left_ : Nat → Int32) (right_ : Nat → Int32) (many : Nat → Int32) (bits : Nat → Int32) (rows : Nat → Int32) (table : Nat → Int32) (row : Nat → Int64) (y1 : Int32) (y2 : Int64) (y4 : Int64) (y6 : Int64) (y8 : Int32) (s1 : Int32) (s2 : Int64) (H : Heap) (locs : List Loc) (ls : Array Slot), f_X7_valued_136 R_X7_valued K78 N used great variable_ kind left_ right_ many bits rows table above below_ row y1 y2 y4 y6 y8 s1 s2 = some z → va_P D vwCl (ws_X7_valued cI cJ cB a0 a_roots a_moved a_text a_out a_sum a_point a_pointRows a_pointSorts a_kind a_left a_right a_many a_bits a_rows a_table a_above a_below a_row thrown used rooted size outSize points takenOut great at_ fault open_ wrong by_ sort variable_ pointCount kind left_ right_ many bits rows table above below_ row) H → va_D (va_A ws0 sz) (ws_X7_valued cI cJ cB a0 a_roots a_moved a_text a_out a_sum a_point a_pointRows a_pointSorts a_kind a_left a_right a_many a_bits a_rows a_table a_above a_below a_row thrown used rooted size outSize points takenOut great at_ fault open_ wrong by_ sort variable_ pointCount kind left_ right_ many bits rows table above below_ row) → va_S (va_A ws0 sz) s.heap H locs → lv_has ls 9 [(0, .ref a0), (1, .int y1), (2, .long y2), (4, .long y4), (6, .long y6), (8, .int y8)] → W p l e (rmg_valued (d + 1)) s m args below meth c H locs 0 0 (MQ below (gQ D sz ws0 (ws_X7_valued cI cJ cB a0 a_roots a_moved a_text a_out a_sum a_point a_pointRows a_pointSorts a_kind a_left a_right a_many a_bits a_rows a_table a_above a_below a_row thrown z.2.1 rooted size outSize points takenOut z.2.2.1 at_ fault open_ wrong by_ sort variable_ pointCount z.2.2.2.1 z.2.2.2.2.1 z.2.2.2.2.2.1 z.2.2.2.2.2.2.1 z.2.2.2.2.2.2.2.1 z.2.2.2.2.2.2.2.2.1 z.2.2.2.2.2.2.2.2.2.1 above below_ z.2.2.2.2.2.2.2.2.2.2) (some (.int z.1))) args s 0 0 (va_A ws0 sz)) (F0 m 136 ls [.long s2, .int s1, .ref a_row]) := by
  obtain ⟨F, hr, hlk, hNw⟩ := id CX
  have hx := F.1
  have hb := F.2.1
  have hown := F.2.2.2.1
  have hA : ∀ q, s.heap.size ≤ q → va_A ws0 sz q := fun q hq => Or.inr (hsz ▸ hq)
  intro used great kind left_ right_ many bits rows table row y1 y2 y4 y6 y8 s1 s2 H locs ls h hP hD hS hl
  unfold f_X7_valued_136 at h
  obtain ⟨hi136, h⟩ := o_ix h
  refine r_last (wn := (ws_X7_valued cI cJ cB a0 a_roots a_moved a_text a_out a_sum a_point a_pointRows a_pointSorts a_kind a_left a_right a_many a_bits a_rows a_table a_above a_below a_row thrown used rooted size outSize points takenOut great at_ fault open_ wrong by_ sort variable_ pointCount kind left_ right_ many bits rows table above below_ (vp_updL row s1.toNatClampNeg s2))) F hK hP hD hS 10 1 hi136 rfl rfl rfl dX7_valued_136 (fun H locs hP hD hS => ?_)
  refine lv_iinc (v := y8 + 1) (lv' := [(8, .int (y8 + 1)), (0, .ref a0), (1, .int y1), (2, .long y2), (4, .long y4), (6, .long y6)]) hx hb dX7_valued_137 hl (k := 5) rfl rfl (by decide) rfl (fun ls hl => ?_)
  refine lv_goto (tgt := 78) hx hb dX7_valued_140 (by decide) ?_
  exact hK78 used great kind left_ right_ many bits rows table (vp_updL row s1.toNatClampNeg s2) y1 y2 y4 y6 (y8 + 1) _ _ _ h hP hD hS (lv_sub hl [1, 2, 3, 4, 5, 0] rfl)
set_option maxHeartbeats 4000000 in
set_option maxRecDepth 100000 in
theorem w_X7_valued_135 (CX : Cx p m c cX7_valued 9 s args x0 RX7 meth (some .int)) (hK : va_K D vwCl (ty0 cI cJ cB) s) (hsz : s.heap.size = sz) (ih_X7_valued : CP_X7_valued l D cI cJ cB (rmg_valued d) R_X7_valued) {K78 : Int32 → Int32 → Int32 → (Nat → Int32) → (Nat → Int32) → (Nat → Int32) → (Nat → Int32) → (Nat → Int32) → (Nat → Int32) → (Nat → Int32) → (Nat → Int32) → (Nat → Int32) → (Nat → Int64) → Int32 → Int64 → Int64 → Int64 → Int32 → Option (Int32 × (Int32) × (Int32) × (Nat → Int32) × (Nat → Int32) × (Nat → Int32) × (Nat → Int32) × (Nat → Int32) × (Nat → Int32) × (Nat → Int32) × (Nat → Int64))} (hK78 : ∀ (used : Int32) (great : Int32) (kind : Nat → Int32) (left_ : Nat → Int32) (right_ : Nat → Int32) (many : Nat → Int32) (bits : Nat → Int32) (rows : Nat → Int32) (table : Nat → Int32) (row : Nat → Int64) (y1 : Int32) (y2 : Int64) (y4 : Int64) (y6 : Int64) (y8 : Int32) (H : Heap) (locs : List Loc) (ls : Array Slot), K78 used great variable_ kind left_ right_ many bits rows table above below_ row y1 y2 y4 y6 y8 = some z → va_P D vwCl (ws_X7_valued cI cJ cB a0 a_roots a_moved a_text a_out a_sum a_point a_pointRows a_pointSorts a_kind a_left a_right a_many a_bits a_rows a_table a_above a_below a_row thrown used rooted size outSize points takenOut great at_ fault open_ wrong by_ sort variable_ pointCount kind left_ right_ many bits rows table above below_ row) H → va_D (va_A ws0 sz) (ws_X7_valued cI cJ cB a0 a_roots a_moved a_text a_out a_sum a_point a_pointRows a_pointSorts a_kind a_left a_right a_many a_bits a_rows a_table a_above a_below a_row thrown used rooted size outSize points takenOut great at_ fault open_ wrong by_ sort variable_ pointCount kind left_ right_ many bits rows table above below_ row) → va_S (va_A ws0 sz) s.heap H locs → lv_has ls 9 [(0, .ref a0), (1, .int y1), (2, .long y2), (4, .long y4), (6, .long y6), (8, .int y8)] → W p l e (rmg_valued (d + 1)) s m args below meth c H locs 0 0 (MQ below (gQ D sz ws0 (ws_X7_valued cI cJ cB a0 a_roots a_moved a_text a_out a_sum a_point a_pointRows a_pointSorts a_kind a_left a_right a_many a_bits a_rows a_table a_above a_below a_row thrown z.2.1 rooted size outSize points takenOut z.2.2.1 at_ fault open_ wrong by_ sort variable_ pointCount z.2.2.2.1 z.2.2.2.2.1 z.2.2.2.2.2.1 z.2.2.2.2.2.2.1 z.2.2.2.2.2.2.2.1 z.2.2.2.2.2.2.2.2.1 z.2.2.2.2.2.2.2.2.2.1 above below_ z.2.2.2.2.2.2.2.2.2.2) (some (.int z.1))) args s 0 0 (va_A ws0 sz)) (F0 m 78 ls [])) : ∀ (used : Int32) (great : Int32) (kind : Nat → Int32) (left_ : Nat → Int32) (right_ : Nat → Int32) (many : Nat → Int32) (bits : Nat → Int32) (rows : Nat → Int32) (table : Nat → Int32) (row : Nat → Int64) (y1 : Int32) (y2 : Int64) (y4 : Int64) (y6 : Int64) (y8 : Int32) (s1 : Int32) (s2 : Int64) (s3 : Int64) (H : Heap) (locs : List Loc) (ls : Array Slot), f_X7_valued_135 R_X7_valued K78 N used great variable_ kind left_ right_ many bits rows table above below_ row y1 y2 y4 y6 y8 s1 s2 s3 = some z → va_P D vwCl (ws_X7_valued cI cJ cB a0 a_roots a_moved a_text a_out a_sum a_point a_pointRows a_pointSorts a_kind a_left a_right a_many a_bits a_rows a_table a_above a_below a_row thrown used rooted size outSize points takenOut great at_ fault open_ wrong by_ sort variable_ pointCount kind left_ right_ many bits rows table above below_ row) H → va_D (va_A ws0 sz) (ws_X7_valued cI cJ cB a0 a_roots a_moved a_text a_out a_sum a_point a_pointRows a_pointSorts a_kind a_left a_right a_many a_bits a_rows a_table a_above a_below a_row thrown used rooted size outSize points takenOut great at_ fault open_ wrong by_ sort variable_ pointCount kind left_ right_ many bits rows table above below_ row) → va_S (va_A ws0 sz) s.heap H locs → lv_has ls 9 [(0, .ref a0), (1, .int y1), (2, .long y2), (4, .long y4), (6, .long y6), (8, .int y8)] → W p l e (rmg_valued (d + 1)) s m args below meth c H locs 0 0 (MQ below (gQ D sz ws0 (ws_X7_valued cI cJ cB a0 a_roots a_moved a_text a_out a_sum a_point a_pointRows a_pointSorts a_kind a_left a_right a_many a_bits a_rows a_table a_above a_below a_row thrown z.2.1 rooted size outSize points takenOut z.2.2.1 at_ fault open_ wrong by_ sort variable_ pointCount z.2.2.2.1 z.2.2.2.2.1 z.2.2.2.2.2.1 z.2.2.2.2.2.2.1 z.2.2.2.2.2.2.2.1 z.2.2.2.2.2.2.2.2.1 z.2.2.2.2.2.2.2.2.2.1 above below_ z.2.2.2.2.2.2.2.2.2.2) (some (.int z.1))) args s 0 0 (va_A ws0 sz)) (F0 m 135 ls [.long s3, .long s2, .int s1, .ref a_row]) := by
  obtain ⟨F, hr, hlk, hNw⟩ := id CX
  have hx := F.1
  have hb := F.2.1
  have hown := F.2.2.2.1
  have hA : ∀ q, s.heap.size ≤ q → va_A ws0 sz q := fun q hq => Or.inr (hsz ▸ hq)
  intro used great kind left_ right_ many bits rows table row y1 y2 y4 y6 y8 s1 s2 s3 H locs ls h hP hD hS hl
  unfold f_X7_valued_135 at h
  refine lv_ladd hx hb dX7_valued_135 ?_
  exact w_X7_valued_136 CX hK hsz (ih_X7_valued := ih_X7_valued) (hK78 := hK78) used great kind left_ right_ many bits rows table row y1 y2 y4 y6 y8 s1 (s2 + s3) _ _ _ h hP hD hS (lv_sub hl [0, 1, 2, 3, 4, 5] rfl)
set_option maxHeartbeats 4000000 in
set_option maxRecDepth 100000 in
theorem w_X7_valued_78 (CX : Cx p m c cX7_valued 9 s args x0 RX7 meth (some .int)) (hK : va_K D vwCl (ty0 cI cJ cB) s) (hsz : s.heap.size = sz) (ih_X7_valued : CP_X7_valued l D cI cJ cB (rmg_valued d) R_X7_valued) : ∀ (n : Nat), ∀ (used : Int32) (great : Int32) (kind : Nat → Int32) (left_ : Nat → Int32) (right_ : Nat → Int32) (many : Nat → Int32) (bits : Nat → Int32) (rows : Nat → Int32) (table : Nat → Int32) (row : Nat → Int64) (y1 : Int32) (y2 : Int64) (y4 : Int64) (y6 : Int64) (y8 : Int32) (H : Heap) (locs : List Loc) (ls : Array Slot), f_X7_valued_78 R_X7_valued N n used great variable_ kind left_ right_ many bits rows table above below_ row y1 y2 y4 y6 y8 = some z → va_P D vwCl (ws_X7_valued cI cJ cB a0 a_roots a_moved a_text a_out a_sum a_point a_pointRows a_pointSorts a_kind a_left a_right a_many a_bits a_rows a_table a_above a_below a_row thrown used rooted size outSize points takenOut great at_ fault open_ wrong by_ sort variable_ pointCount kind left_ right_ many bits rows table above below_ row) H → va_D (va_A ws0 sz) (ws_X7_valued cI cJ cB a0 a_roots a_moved a_text a_out a_sum a_point a_pointRows a_pointSorts a_kind a_left a_right a_many a_bits a_rows a_table a_above a_below a_row thrown used rooted size outSize points takenOut great at_ fault open_ wrong by_ sort variable_ pointCount kind left_ right_ many bits rows table above below_ row) → va_S (va_A ws0 sz) s.heap H locs → lv_has ls 9 [(0, .ref a0), (1, .int y1), (2, .long y2), (4, .long y4), (6, .long y6), (8, .int y8)] → W p l e (rmg_valued (d + 1)) s m args below meth c H locs 0 0 (MQ below (gQ D sz ws0 (ws_X7_valued cI cJ cB a0 a_roots a_moved a_text a_out a_sum a_point a_pointRows a_pointSorts a_kind a_left a_right a_many a_bits a_rows a_table a_above a_below a_row thrown z.2.1 rooted size outSize points takenOut z.2.2.1 at_ fault open_ wrong by_ sort variable_ pointCount z.2.2.2.1 z.2.2.2.2.1 z.2.2.2.2.2.1 z.2.2.2.2.2.2.1 z.2.2.2.2.2.2.2.1 z.2.2.2.2.2.2.2.2.1 z.2.2.2.2.2.2.2.2.2.1 above below_ z.2.2.2.2.2.2.2.2.2.2) (some (.int z.1))) args s 0 0 (va_A ws0 sz)) (F0 m 78 ls []) := by
  obtain ⟨F, hr, hlk, hNw⟩ := id CX
  have hx := F.1
  have hb := F.2.1
  have hown := F.2.2.2.1
  have hA : ∀ q, s.heap.size ≤ q → va_A ws0 sz q := fun q hq => Or.inr (hsz ▸ hq)
  intro n
  induction n with
  | zero =>
    intro used great kind left_ right_ many bits rows table row y1 y2 y4 y6 y8 H locs ls h
    cases h
  | succ n ih =>
    intro used great kind left_ right_ many bits rows table row y1 y2 y4 y6 y8 H locs ls h hP hD hS hl
    unfold f_X7_valued_78 at h
    refine lv_iload hx hb dX7_valued_78 (lv_at hl 5 rfl) ?_
    refine lv_bipush (v := 9) hx hb dX7_valued_80 (by decide) ?_
    refine lv_icmp_ge (tgt := 143) hx hb dX7_valued_82 (by decide) (fun c82 => ?_) (fun c82 => ?_)
    · have h := o_t c82 h
      refine lv_aload_n hx hb dX7_valued_143 rfl (lv_at hl 0 rfl) ?_
      refine lv_aload_n hx hb dX7_valued_144 rfl (lv_at hl 0 rfl) ?_
      refine r_get F hK hP 0 2 rfl inW_X7 wm_1094 rfl (by decide) rfl dX7_valued_145 ?_
      refine lv_iload_n hx hb dX7_valued_148 rfl (lv_at hl 1 rfl) ?_
      obtain ⟨hi149, h⟩ := o_ix h
      refine va_iald hx hb hK hP 2 0 rfl rfl hi149 dX7_valued_149 ?_
      obtain ⟨z150, hz150, h⟩ := o_b h
      refine k_v (wn := (ws_X7_valued cI cJ cB a0 a_roots a_moved a_text a_out a_sum a_point a_pointRows a_pointSorts a_kind a_left a_right a_many a_bits a_rows a_table a_above a_below a_row thrown z150.2.1 rooted size outSize points takenOut z150.2.2.1 at_ fault open_ wrong by_ sort variable_ pointCount z150.2.2.2.1 z150.2.2.2.2.1 z150.2.2.2.2.2.1 z150.2.2.2.2.2.2.1 z150.2.2.2.2.2.2.2.1 z150.2.2.2.2.2.2.2.2.1 z150.2.2.2.2.2.2.2.2.2.1 above below_ z150.2.2.2.2.2.2.2.2.2.2)) (As := [.int (left_ y1.toNatClampNeg)]) (rest := []) F hNw hK hP hD hS hA (c_X7_atom l D cI cJ cB a0 a_roots a_moved a_text a_out a_above a_below a_sum a_point a_pointRows a_pointSorts a_kind a_left a_right a_many a_bits a_rows a_table a_row _ thrown used rooted size outSize points takenOut great at_ fault open_ wrong by_ sort variable_ pointCount kind left_ right_ many bits rows table row (left_ y1.toNatClampNeg) N hz150) wm_1257 cv_X7_atom [0, 1, 2, 3, 4, 5, 6, 7, 10] [8, 9] [2, 3, 4, 5, 6, 7, 8, 9, 0, 1, 10] (⟨rfl, rfl, rfl, by decide, rfl⟩ : Ix [0, 1, 2, 3, 4, 5, 6, 7, 10] [8, 9] [2, 3, 4, 5, 6, 7, 8, 9, 0, 1, 10] 11) rfl (hN_of 2 11 (by decide +kernel) rfl (by decide +kernel) rfl) rfl rfl rfl rfl ⟨rfl, rfl, by show 2 + 1 ≤ 3 + (d + 1); omega, by show 8 + (7 + 11) + 55 ≤ 81 + 28 * (d + 1); omega⟩ hl.1 rfl (Nat.le_of_ble_eq_true rfl) ⟨Nat.zero_le _, Nat.zero_le _⟩ dX7_valued_150 (fun H locs hP hD hS => ?_)
      obtain rfl := Option.some.inj h
      exact r_ret (v := z150.1) F hr hlk rfl dX7_valued_153 hsz hP hD hS
    · have h := o_f c82 h
      refine lv_aload_n hx hb dX7_valued_85 rfl (lv_at hl 0 rfl) ?_
      refine r_get F hK hP 0 21 rfl inW_X7 wm_1113 rfl (by decide) rfl dX7_valued_86 ?_
      refine lv_iload hx hb dX7_valued_89 (lv_at hl 5 rfl) ?_
      refine lv_iload hx hb dX7_valued_91 (lv_at hl 5 rfl) ?_
      refine lv_aload_n hx hb dX7_valued_93 rfl (lv_at hl 0 rfl) ?_
      refine r_get F hK hP 0 30 rfl inW_X7 wm_1122 rfl (by decide) rfl dX7_valued_94 ?_
      refine lv_icmp_ne (tgt := 104) hx hb dX7_valued_97 (by decide) (fun c97 => ?_) (fun c97 => ?_)
      · have h := o_f c97 h
        refine lv_lload hx hb dX7_valued_104 (lv_at hl 3 rfl) ?_
        refine lv_aload_n hx hb dX7_valued_106 rfl (lv_at hl 0 rfl) ?_
        refine r_get F hK hP 0 6 rfl inW_X7 wm_1098 rfl (by decide) rfl dX7_valued_107 ?_
        refine lv_bipush (v := 9) hx hb dX7_valued_110 (by decide) ?_
        refine lv_iload_n hx hb dX7_valued_112 rfl (lv_at hl 1 rfl) ?_
        refine lv_imul hx hb dX7_valued_113 ?_
        refine lv_iload hx hb dX7_valued_114 (lv_at hl 5 rfl) ?_
        refine lv_iadd hx hb dX7_valued_116 ?_
        obtain ⟨hi117, h⟩ := o_ix h
        refine va_iald hx hb hK hP 6 0 rfl rfl hi117 dX7_valued_117 ?_
        refine lv_i2l hx hb dX7_valued_118 rfl ?_
        refine lv_lmul hx hb dX7_valued_119 ?_
        refine lv_iload hx hb dX7_valued_120 (lv_at hl 5 rfl) ?_
        refine lv_bipush (v := 8) hx hb dX7_valued_122 (by decide) ?_
        refine lv_icmp_ne (tgt := 134) hx hb dX7_valued_124 (by decide) (fun c124 => ?_) (fun c124 => ?_)
        · have h := o_f c124 h
          refine lv_lconst (v := 0) hx hb dX7_valued_134 (by decide) ?_
          exact w_X7_valued_135 CX hK hsz (ih_X7_valued := ih_X7_valued) (hK78 := ih) used great kind left_ right_ many bits rows table row y1 y2 y4 y6 y8 y8 (y4 * ((rows ((9 * y1) + y8).toNatClampNeg).toInt64)) 0 _ _ _ h hP hD hS (lv_sub hl [0, 1, 2, 3, 4, 5] rfl)
        · have h := o_t c124 h
          refine lv_lload_n hx hb dX7_valued_127 rfl (lv_at hl 2 rfl) ?_
          refine lv_lload hx hb dX7_valued_128 (lv_at hl 4 rfl) ?_
          refine lv_lmul hx hb dX7_valued_130 ?_
          refine lv_goto (tgt := 135) hx hb dX7_valued_131 (by decide) ?_
          exact w_X7_valued_135 CX hK hsz (ih_X7_valued := ih_X7_valued) (hK78 := ih) used great kind left_ right_ many bits rows table row y1 y2 y4 y6 y8 y8 (y4 * ((rows ((9 * y1) + y8).toNatClampNeg).toInt64)) (y2 * y6) _ _ _ h hP hD hS (lv_sub hl [0, 1, 2, 3, 4, 5] rfl)
      · have h := o_t c97 h
        refine lv_lconst (v := 0) hx hb dX7_valued_100 (by decide) ?_
        refine lv_goto (tgt := 136) hx hb dX7_valued_101 (by decide) ?_
        exact w_X7_valued_136 CX hK hsz (ih_X7_valued := ih_X7_valued) (hK78 := ih) used great kind left_ right_ many bits rows table row y1 y2 y4 y6 y8 y8 0 _ _ _ h hP hD hS (lv_sub hl [0, 1, 2, 3, 4, 5] rfl)
set_option maxHeartbeats 4000000 in
set_option maxRecDepth 100000 in
theorem w_X7_valued_212 (CX : Cx p m c cX7_valued 9 s args x0 RX7 meth (some .int)) (hK : va_K D vwCl (ty0 cI cJ cB) s) (hsz : s.heap.size = sz) (ih_X7_valued : CP_X7_valued l D cI cJ cB (rmg_valued d) R_X7_valued) : ∀ (used : Int32) (great : Int32) (kind : Nat → Int32) (left_ : Nat → Int32) (right_ : Nat → Int32) (many : Nat → Int32) (bits : Nat → Int32) (rows : Nat → Int32) (table : Nat → Int32) (row : Nat → Int64) (s0 : Int32) (H : Heap) (locs : List Loc) (ls : Array Slot), f_X7_valued_212 R_X7_valued N used great variable_ kind left_ right_ many bits rows table above below_ row s0 = some z → va_P D vwCl (ws_X7_valued cI cJ cB a0 a_roots a_moved a_text a_out a_sum a_point a_pointRows a_pointSorts a_kind a_left a_right a_many a_bits a_rows a_table a_above a_below a_row thrown used rooted size outSize points takenOut great at_ fault open_ wrong by_ sort variable_ pointCount kind left_ right_ many bits rows table above below_ row) H → va_D (va_A ws0 sz) (ws_X7_valued cI cJ cB a0 a_roots a_moved a_text a_out a_sum a_point a_pointRows a_pointSorts a_kind a_left a_right a_many a_bits a_rows a_table a_above a_below a_row thrown used rooted size outSize points takenOut great at_ fault open_ wrong by_ sort variable_ pointCount kind left_ right_ many bits rows table above below_ row) → va_S (va_A ws0 sz) s.heap H locs → lv_has ls 9 [] → W p l e (rmg_valued (d + 1)) s m args below meth c H locs 0 0 (MQ below (gQ D sz ws0 (ws_X7_valued cI cJ cB a0 a_roots a_moved a_text a_out a_sum a_point a_pointRows a_pointSorts a_kind a_left a_right a_many a_bits a_rows a_table a_above a_below a_row thrown z.2.1 rooted size outSize points takenOut z.2.2.1 at_ fault open_ wrong by_ sort variable_ pointCount z.2.2.2.1 z.2.2.2.2.1 z.2.2.2.2.2.1 z.2.2.2.2.2.2.1 z.2.2.2.2.2.2.2.1 z.2.2.2.2.2.2.2.2.1 z.2.2.2.2.2.2.2.2.2.1 above below_ z.2.2.2.2.2.2.2.2.2.2) (some (.int z.1))) args s 0 0 (va_A ws0 sz)) (F0 m 212 ls [.int s0]) := by
  obtain ⟨F, hr, hlk, hNw⟩ := id CX
  have hx := F.1
  have hb := F.2.1
  have hown := F.2.2.2.1
  have hA : ∀ q, s.heap.size ≤ q → va_A ws0 sz q := fun q hq => Or.inr (hsz ▸ hq)
  intro used great kind left_ right_ many bits rows table row s0 H locs ls h hP hD hS hl
  unfold f_X7_valued_212 at h
  obtain rfl := Option.some.inj h
  exact r_ret (v := s0) F hr hlk rfl dX7_valued_212 hsz hP hD hS
set_option maxHeartbeats 4000000 in
set_option maxRecDepth 100000 in
theorem w_X7_valued_202 (CX : Cx p m c cX7_valued 9 s args x0 RX7 meth (some .int)) (hK : va_K D vwCl (ty0 cI cJ cB) s) (hsz : s.heap.size = sz) (ih_X7_valued : CP_X7_valued l D cI cJ cB (rmg_valued d) R_X7_valued) : ∀ (used : Int32) (great : Int32) (kind : Nat → Int32) (left_ : Nat → Int32) (right_ : Nat → Int32) (many : Nat → Int32) (bits : Nat → Int32) (rows : Nat → Int32) (table : Nat → Int32) (row : Nat → Int64) (y1 : Int32) (y2 : Int32) (s1 : Int32) (H : Heap) (locs : List Loc) (ls : Array Slot), f_X7_valued_202 R_X7_valued N used great variable_ kind left_ right_ many bits rows table above below_ row y1 y2 s1 = some z → va_P D vwCl (ws_X7_valued cI cJ cB a0 a_roots a_moved a_text a_out a_sum a_point a_pointRows a_pointSorts a_kind a_left a_right a_many a_bits a_rows a_table a_above a_below a_row thrown used rooted size outSize points takenOut great at_ fault open_ wrong by_ sort variable_ pointCount kind left_ right_ many bits rows table above below_ row) H → va_D (va_A ws0 sz) (ws_X7_valued cI cJ cB a0 a_roots a_moved a_text a_out a_sum a_point a_pointRows a_pointSorts a_kind a_left a_right a_many a_bits a_rows a_table a_above a_below a_row thrown used rooted size outSize points takenOut great at_ fault open_ wrong by_ sort variable_ pointCount kind left_ right_ many bits rows table above below_ row) → va_S (va_A ws0 sz) s.heap H locs → lv_has ls 9 [(0, .ref a0), (1, .int y1), (2, .int y2)] → W p l e (rmg_valued (d + 1)) s m args below meth c H locs 0 0 (MQ below (gQ D sz ws0 (ws_X7_valued cI cJ cB a0 a_roots a_moved a_text a_out a_sum a_point a_pointRows a_pointSorts a_kind a_left a_right a_many a_bits a_rows a_table a_above a_below a_row thrown z.2.1 rooted size outSize points takenOut z.2.2.1 at_ fault open_ wrong by_ sort variable_ pointCount z.2.2.2.1 z.2.2.2.2.1 z.2.2.2.2.2.1 z.2.2.2.2.2.2.1 z.2.2.2.2.2.2.2.1 z.2.2.2.2.2.2.2.2.1 z.2.2.2.2.2.2.2.2.2.1 above below_ z.2.2.2.2.2.2.2.2.2.2) (some (.int z.1))) args s 0 0 (va_A ws0 sz)) (F0 m 202 ls [.int s1, .ref a0]) := by
  obtain ⟨F, hr, hlk, hNw⟩ := id CX
  have hx := F.1
  have hb := F.2.1
  have hown := F.2.2.2.1
  have hA : ∀ q, s.heap.size ≤ q → va_A ws0 sz q := fun q hq => Or.inr (hsz ▸ hq)
  intro used great kind left_ right_ many bits rows table row y1 y2 s1 H locs ls h hP hD hS hl
  unfold f_X7_valued_202 at h
  refine lv_aload_n hx hb dX7_valued_202 rfl (lv_at hl 0 rfl) ?_
  refine r_get F hK hP 0 2 rfl inW_X7 wm_1094 rfl (by decide) rfl dX7_valued_203 ?_
  refine lv_iload_n hx hb dX7_valued_206 rfl (lv_at hl 1 rfl) ?_
  obtain ⟨hi207, h⟩ := o_ix h
  refine va_iald hx hb hK hP 2 0 rfl rfl hi207 dX7_valued_207 ?_
  refine lv_iload_n hx hb dX7_valued_208 rfl (lv_at hl 2 rfl) ?_
  obtain ⟨z209, hz209, h⟩ := o_b h
  refine k_v (wn := (ws_X7_valued cI cJ cB a0 a_roots a_moved a_text a_out a_sum a_point a_pointRows a_pointSorts a_kind a_left a_right a_many a_bits a_rows a_table a_above a_below a_row thrown z209.2.1 rooted size outSize points takenOut great at_ fault open_ wrong by_ sort variable_ pointCount z209.2.2.1 z209.2.2.2.1 z209.2.2.2.2.1 z209.2.2.2.2.2.1 z209.2.2.2.2.2.2.1 z209.2.2.2.2.2.2.2.1 z209.2.2.2.2.2.2.2.2 above below_ row)) (As := [.int s1, .int (left_ y1.toNatClampNeg), .int y2]) (rest := []) F hNw hK hP hD hS hA (c_X7_quantified l D cI cJ cB a0 a_roots a_moved a_text a_out a_above a_below a_sum a_point a_pointRows a_pointSorts a_kind a_left a_right a_many a_bits a_rows a_table a_row _ thrown used rooted size outSize points takenOut great at_ fault open_ wrong by_ sort variable_ pointCount kind left_ right_ many bits rows table row s1 (left_ y1.toNatClampNeg) y2 N hz209) wm_1274 cv_X7_quantified [0, 1, 2, 3, 4, 5, 6, 7, 10] [8, 9] [2, 3, 4, 5, 6, 7, 8, 9, 0, 1, 10] (⟨rfl, rfl, rfl, by decide, rfl⟩ : Ix [0, 1, 2, 3, 4, 5, 6, 7, 10] [8, 9] [2, 3, 4, 5, 6, 7, 8, 9, 0, 1, 10] 11) rfl (hN_of 2 11 (by decide +kernel) rfl (by decide +kernel) rfl) rfl rfl rfl rfl ⟨rfl, rfl, by show 2 + 1 ≤ 3 + (d + 1); omega, by show 8 + (4 + 11) + 55 ≤ 81 + 28 * (d + 1); omega⟩ hl.1 rfl (Nat.le_of_ble_eq_true rfl) ⟨Nat.zero_le _, Nat.zero_le _⟩ dX7_valued_209 (fun H locs hP hD hS => ?_)
  exact w_X7_valued_212 CX hK hsz (ih_X7_valued := ih_X7_valued) z209.2.1 great z209.2.2.1 z209.2.2.2.1 z209.2.2.2.2.1 z209.2.2.2.2.2.1 z209.2.2.2.2.2.2.1 z209.2.2.2.2.2.2.2.1 z209.2.2.2.2.2.2.2.2 row z209.1 _ _ _ h hP hD hS (lv_sub hl [] rfl)
set_option maxHeartbeats 4000000 in
set_option maxRecDepth 100000 in
theorem w_X7_valued_267 (CX : Cx p m c cX7_valued 9 s args x0 RX7 meth (some .int)) (hK : va_K D vwCl (ty0 cI cJ cB) s) (hsz : s.heap.size = sz) (ih_X7_valued : CP_X7_valued l D cI cJ cB (rmg_valued d) R_X7_valued) : ∀ (used : Int32) (great : Int32) (kind : Nat → Int32) (left_ : Nat → Int32) (right_ : Nat → Int32) (many : Nat → Int32) (bits : Nat → Int32) (rows : Nat → Int32) (table : Nat → Int32) (row : Nat → Int64) (s0 : Int32) (H : Heap) (locs : List Loc) (ls : Array Slot), f_X7_valued_267 R_X7_valued N used great variable_ kind left_ right_ many bits rows table above below_ row s0 = some z → va_P D vwCl (ws_X7_valued cI cJ cB a0 a_roots a_moved a_text a_out a_sum a_point a_pointRows a_pointSorts a_kind a_left a_right a_many a_bits a_rows a_table a_above a_below a_row thrown used rooted size outSize points takenOut great at_ fault open_ wrong by_ sort variable_ pointCount kind left_ right_ many bits rows table above below_ row) H → va_D (va_A ws0 sz) (ws_X7_valued cI cJ cB a0 a_roots a_moved a_text a_out a_sum a_point a_pointRows a_pointSorts a_kind a_left a_right a_many a_bits a_rows a_table a_above a_below a_row thrown used rooted size outSize points takenOut great at_ fault open_ wrong by_ sort variable_ pointCount kind left_ right_ many bits rows table above below_ row) → va_S (va_A ws0 sz) s.heap H locs → lv_has ls 9 [] → W p l e (rmg_valued (d + 1)) s m args below meth c H locs 0 0 (MQ below (gQ D sz ws0 (ws_X7_valued cI cJ cB a0 a_roots a_moved a_text a_out a_sum a_point a_pointRows a_pointSorts a_kind a_left a_right a_many a_bits a_rows a_table a_above a_below a_row thrown z.2.1 rooted size outSize points takenOut z.2.2.1 at_ fault open_ wrong by_ sort variable_ pointCount z.2.2.2.1 z.2.2.2.2.1 z.2.2.2.2.2.1 z.2.2.2.2.2.2.1 z.2.2.2.2.2.2.2.1 z.2.2.2.2.2.2.2.2.1 z.2.2.2.2.2.2.2.2.2.1 above below_ z.2.2.2.2.2.2.2.2.2.2) (some (.int z.1))) args s 0 0 (va_A ws0 sz)) (F0 m 267 ls [.int s0]) := by
  obtain ⟨F, hr, hlk, hNw⟩ := id CX
  have hx := F.1
  have hb := F.2.1
  have hown := F.2.2.2.1
  have hA : ∀ q, s.heap.size ≤ q → va_A ws0 sz q := fun q hq => Or.inr (hsz ▸ hq)
  intro used great kind left_ right_ many bits rows table row s0 H locs ls h hP hD hS hl
  unfold f_X7_valued_267 at h
  obtain rfl := Option.some.inj h
  exact r_ret (v := s0) F hr hlk rfl dX7_valued_267 hsz hP hD hS
set_option maxHeartbeats 4000000 in
set_option maxRecDepth 100000 in
theorem w_X7_valued_262 (CX : Cx p m c cX7_valued 9 s args x0 RX7 meth (some .int)) (hK : va_K D vwCl (ty0 cI cJ cB) s) (hsz : s.heap.size = sz) (ih_X7_valued : CP_X7_valued l D cI cJ cB (rmg_valued d) R_X7_valued) : ∀ (used : Int32) (great : Int32) (kind : Nat → Int32) (left_ : Nat → Int32) (right_ : Nat → Int32) (many : Nat → Int32) (bits : Nat → Int32) (rows : Nat → Int32) (table : Nat → Int32) (row : Nat → Int64) (y2 : Int32) (y3 : Int32) (s1 : Int32) (H : Heap) (locs : List Loc) (ls : Array Slot), f_X7_valued_262 R_X7_valued N used great variable_ kind left_ right_ many bits rows table above below_ row y2 y3 s1 = some z → va_P D vwCl (ws_X7_valued cI cJ cB a0 a_roots a_moved a_text a_out a_sum a_point a_pointRows a_pointSorts a_kind a_left a_right a_many a_bits a_rows a_table a_above a_below a_row thrown used rooted size outSize points takenOut great at_ fault open_ wrong by_ sort variable_ pointCount kind left_ right_ many bits rows table above below_ row) H → va_D (va_A ws0 sz) (ws_X7_valued cI cJ cB a0 a_roots a_moved a_text a_out a_sum a_point a_pointRows a_pointSorts a_kind a_left a_right a_many a_bits a_rows a_table a_above a_below a_row thrown used rooted size outSize points takenOut great at_ fault open_ wrong by_ sort variable_ pointCount kind left_ right_ many bits rows table above below_ row) → va_S (va_A ws0 sz) s.heap H locs → lv_has ls 9 [(2, .int y2), (3, .int y3)] → W p l e (rmg_valued (d + 1)) s m args below meth c H locs 0 0 (MQ below (gQ D sz ws0 (ws_X7_valued cI cJ cB a0 a_roots a_moved a_text a_out a_sum a_point a_pointRows a_pointSorts a_kind a_left a_right a_many a_bits a_rows a_table a_above a_below a_row thrown z.2.1 rooted size outSize points takenOut z.2.2.1 at_ fault open_ wrong by_ sort variable_ pointCount z.2.2.2.1 z.2.2.2.2.1 z.2.2.2.2.2.1 z.2.2.2.2.2.2.1 z.2.2.2.2.2.2.2.1 z.2.2.2.2.2.2.2.2.1 z.2.2.2.2.2.2.2.2.2.1 above below_ z.2.2.2.2.2.2.2.2.2.2) (some (.int z.1))) args s 0 0 (va_A ws0 sz)) (F0 m 262 ls [.int s1, .ref a0]) := by
  obtain ⟨F, hr, hlk, hNw⟩ := id CX
  have hx := F.1
  have hb := F.2.1
  have hown := F.2.2.2.1
  have hA : ∀ q, s.heap.size ≤ q → va_A ws0 sz q := fun q hq => Or.inr (hsz ▸ hq)
  intro used great kind left_ right_ many bits rows table row y2 y3 s1 H locs ls h hP hD hS hl
  unfold f_X7_valued_262 at h
  refine lv_iload_n hx hb dX7_valued_262 rfl (lv_at hl 0 rfl) ?_
  refine lv_iload_n hx hb dX7_valued_263 rfl (lv_at hl 1 rfl) ?_
  obtain ⟨z264, hz264, h⟩ := o_b h
  refine k_v (wn := (ws_X7_valued cI cJ cB a0 a_roots a_moved a_text a_out a_sum a_point a_pointRows a_pointSorts a_kind a_left a_right a_many a_bits a_rows a_table a_above a_below a_row thrown z264.2.1 rooted size outSize points takenOut great at_ fault open_ wrong by_ sort variable_ pointCount z264.2.2.1 z264.2.2.2.1 z264.2.2.2.2.1 z264.2.2.2.2.2.1 z264.2.2.2.2.2.2.1 z264.2.2.2.2.2.2.2.1 z264.2.2.2.2.2.2.2.2 above below_ row)) (As := [.int s1, .int y2, .int y3]) (rest := []) F hNw hK hP hD hS hA (c_X7_both l D cI cJ cB a0 a_roots a_moved a_text a_out a_above a_below a_sum a_point a_pointRows a_pointSorts a_kind a_left a_right a_many a_bits a_rows a_table a_row _ thrown used rooted size outSize points takenOut great at_ fault open_ wrong by_ sort variable_ pointCount kind left_ right_ many bits rows table row s1 y2 y3 N hz264) wm_1270 cv_X7_both [0, 1, 2, 3, 4, 5, 6, 7, 10] [8, 9] [2, 3, 4, 5, 6, 7, 8, 9, 0, 1, 10] (⟨rfl, rfl, rfl, by decide, rfl⟩ : Ix [0, 1, 2, 3, 4, 5, 6, 7, 10] [8, 9] [2, 3, 4, 5, 6, 7, 8, 9, 0, 1, 10] 11) rfl (hN_of 2 11 (by decide +kernel) rfl (by decide +kernel) rfl) rfl rfl rfl rfl ⟨rfl, rfl, by show 2 + 1 ≤ 3 + (d + 1); omega, by show 8 + (5 + 11) + 55 ≤ 81 + 28 * (d + 1); omega⟩ hl.1 rfl (Nat.le_of_ble_eq_true rfl) ⟨Nat.zero_le _, Nat.zero_le _⟩ dX7_valued_264 (fun H locs hP hD hS => ?_)
  exact w_X7_valued_267 CX hK hsz (ih_X7_valued := ih_X7_valued) z264.2.1 great z264.2.2.1 z264.2.2.2.1 z264.2.2.2.2.1 z264.2.2.2.2.2.1 z264.2.2.2.2.2.2.1 z264.2.2.2.2.2.2.2.1 z264.2.2.2.2.2.2.2.2 row z264.1 _ _ _ h hP hD hS (lv_sub hl [] rfl)
end G_X7_valued
set_option maxHeartbeats 4000000 in
set_option maxRecDepth 100000 in
theorem cF_X7_valued (l : Launch) (D : va_G) (cI cJ cB : ClassId) (N d : Nat) {R_X7_valued : Int32 → Int32 → Int32 → (Nat → Int32) → (Nat → Int32) → (Nat → Int32) → (Nat → Int32) → (Nat → Int32) → (Nat → Int32) → (Nat → Int32) → (Nat → Int32) → (Nat → Int32) → (Nat → Int64) → Int32 → Option (Int32 × (Int32) × (Int32) × (Nat → Int32) × (Nat → Int32) × (Nat → Int32) × (Nat → Int32) × (Nat → Int32) × (Nat → Int32) × (Nat → Int32) × (Nat → Int64))} (ih_X7_valued : CP_X7_valued l D cI cJ cB (rmg_valued d) R_X7_valued) : CP_X7_valued l D cI cJ cB (rmg_valued (d + 1)) (F_X7_valued R_X7_valued N) := by
  intro a0 a_roots a_moved a_text a_out a_sum a_point a_pointRows a_pointSorts a_kind a_left a_right a_many a_bits a_rows a_table a_above a_below a_row sz thrown used rooted size outSize points takenOut great at_ fault open_ wrong by_ sort variable_ pointCount kind left_ right_ many bits rows table above below_ row x1 z h
  refine Mg.of (by decide) (Nat.le_of_ble_eq_true rfl) ?_
  intro p e s m below meth c CX hK hsz hP hD ls hl
  have CX : Cx p m c cX7_valued 9 s ([.ref a0, .int x1] : List Value).toArray (Cond.code yX7_valued cX7_valued 9 (some .int)) RX7 meth (some .int) := CX
  obtain ⟨F, hr, hlk, hNw⟩ := id CX
  have hx := F.1
  have hb := F.2.1
  have hown := F.2.2.2.1
  have hl : lv_has ls 9 [(0, .ref a0), (1, .int x1)] := hl
  have hS : va_S (va_A (ws_X7_valued cI cJ cB a0 a_roots a_moved a_text a_out a_sum a_point a_pointRows a_pointSorts a_kind a_left a_right a_many a_bits a_rows a_table a_above a_below a_row thrown used rooted size outSize points takenOut great at_ fault open_ wrong by_ sort variable_ pointCount kind left_ right_ many bits rows table above below_ row) sz) s.heap s.heap [] := va_S.rf
  have hA : ∀ q, s.heap.size ≤ q → va_A (ws_X7_valued cI cJ cB a0 a_roots a_moved a_text a_out a_sum a_point a_pointRows a_pointSorts a_kind a_left a_right a_many a_bits a_rows a_table a_above a_below a_row thrown used rooted size outSize points takenOut great at_ fault open_ wrong by_ sort variable_ pointCount kind left_ right_ many bits rows table above below_ row) sz q := fun q hq => Or.inr (hsz ▸ hq)
  unfold F_X7_valued at h
  refine lv_aload_n hx hb dX7_valued_0 rfl (lv_at hl 0 rfl) ?_
  refine r_get F hK hP 0 5 rfl inW_X7 wm_1097 rfl (by decide) rfl dX7_valued_1 ?_
  refine lv_iload_n hx hb dX7_valued_4 rfl (lv_at hl 1 rfl) ?_
  obtain ⟨hi5, h⟩ := o_ix h
  refine va_iald hx hb hK hP 5 0 rfl rfl hi5 dX7_valued_5 ?_
  refine lv_aload_n hx hb dX7_valued_6 rfl (lv_at hl 0 rfl) ?_
  refine r_get F hK hP 0 30 rfl inW_X7 wm_1122 rfl (by decide) rfl dX7_valued_7 ?_
  refine lv_ishr hx hb dX7_valued_10 ?_
  refine lv_iconst (v := 1) hx hb dX7_valued_11 (by decide) ?_
  refine lv_iand hx hb dX7_valued_12 ?_
  refine lv_if_eq (tgt := 23) hx hb dX7_valued_13 (by decide) (fun c13 => ?_) (fun c13 => ?_)
  · have h := o_t c13 h
    exact w_X7_valued_23 CX hK hsz (ih_X7_valued := ih_X7_valued) used great kind left_ right_ many bits rows table row x1 _ _ _ h hP hD hS (lv_sub hl [1] rfl)
  · have h := o_f c13 h
    refine lv_aload_n hx hb dX7_valued_16 rfl (lv_at hl 0 rfl) ?_
    refine r_get F hK hP 0 20 rfl inW_X7 wm_1112 rfl (by decide) rfl dX7_valued_17 ?_
    refine lv_if_eq (tgt := 25) hx hb dX7_valued_20 (by decide) (fun c20 => ?_) (fun c20 => ?_)
    · have h := o_t c20 h
      refine lv_aload_n hx hb dX7_valued_25 rfl (lv_at hl 0 rfl) ?_
      refine r_get F hK hP 0 1 rfl inW_X7 wm_1093 rfl (by decide) rfl dX7_valued_26 ?_
      refine lv_iload_n hx hb dX7_valued_29 rfl (lv_at hl 1 rfl) ?_
      obtain ⟨hi30, h⟩ := o_ix h
      refine va_iald hx hb hK hP 1 0 rfl rfl hi30 dX7_valued_30 ?_
      refine lv_iconst (v := 2) hx hb dX7_valued_31 (by decide) ?_
      refine lv_icmp_ne (tgt := 154) hx hb dX7_valued_32 (by decide) (fun c32 => ?_) (fun c32 => ?_)
      · have h := o_f c32 h
        refine lv_aload_n hx hb dX7_valued_154 rfl (lv_at hl 0 rfl) ?_
        refine r_get F hK hP 0 1 rfl inW_X7 wm_1093 rfl (by decide) rfl dX7_valued_155 ?_
        refine lv_iload_n hx hb dX7_valued_158 rfl (lv_at hl 1 rfl) ?_
        obtain ⟨hi159, h⟩ := o_ix h
        refine va_iald hx hb hK hP 1 0 rfl rfl hi159 dX7_valued_159 ?_
        refine lv_iconst (v := 5) hx hb dX7_valued_160 (by decide) ?_
        refine lv_icmp_lt (tgt := 213) hx hb dX7_valued_161 (by decide) (fun c161 => ?_) (fun c161 => ?_)
        · have h := o_t c161 h
          refine lv_aload_n hx hb dX7_valued_213 rfl (lv_at hl 0 rfl) ?_
          refine lv_aload_n hx hb dX7_valued_214 rfl (lv_at hl 0 rfl) ?_
          refine r_get F hK hP 0 2 rfl inW_X7 wm_1094 rfl (by decide) rfl dX7_valued_215 ?_
          refine lv_iload_n hx hb dX7_valued_218 rfl (lv_at hl 1 rfl) ?_
          obtain ⟨hi219, h⟩ := o_ix h
          refine va_iald hx hb hK hP 2 0 rfl rfl hi219 dX7_valued_219 ?_
          obtain ⟨z220, hz220, h⟩ := o_b h
          refine k_v (wn := (ws_X7_valued cI cJ cB a0 a_roots a_moved a_text a_out a_sum a_point a_pointRows a_pointSorts a_kind a_left a_right a_many a_bits a_rows a_table a_above a_below a_row thrown z220.2.1 rooted size outSize points takenOut z220.2.2.1 at_ fault open_ wrong by_ sort variable_ pointCount z220.2.2.2.1 z220.2.2.2.2.1 z220.2.2.2.2.2.1 z220.2.2.2.2.2.2.1 z220.2.2.2.2.2.2.2.1 z220.2.2.2.2.2.2.2.2.1 z220.2.2.2.2.2.2.2.2.2.1 above below_ z220.2.2.2.2.2.2.2.2.2.2)) (As := [.int (left_ x1.toNatClampNeg)]) (rest := []) F hNw hK hP hD hS hA (ih_X7_valued a0 a_roots a_moved a_text a_out a_sum a_point a_pointRows a_pointSorts a_kind a_left a_right a_many a_bits a_rows a_table a_above a_below a_row _ thrown used rooted size outSize points takenOut great at_ fault open_ wrong by_ sort variable_ pointCount kind left_ right_ many bits rows table above below_ row (left_ x1.toNatClampNeg) hz220) wm_1347 cv_X7_valued [0, 1, 2, 3, 4, 5, 6, 7, 8, 9, 10] [] [0, 1, 2, 3, 4, 5, 6, 7, 8, 9, 10] (⟨rfl, rfl, rfl, by decide, rfl⟩ : Ix [0, 1, 2, 3, 4, 5, 6, 7, 8, 9, 10] [] [0, 1, 2, 3, 4, 5, 6, 7, 8, 9, 10] 11) rfl (hN_of 0 11 (by decide +kernel) rfl (by decide +kernel) rfl) rfl rfl rfl rfl ⟨rfl, rfl, by show 3 + d + 1 ≤ 3 + (d + 1); omega, by show 8 + (9 + 11) + (81 + 28 * d) ≤ 81 + 28 * (d + 1); omega⟩ hl.1 rfl (Nat.le_of_ble_eq_true rfl) ⟨Nat.zero_le _, Nat.zero_le _⟩ dX7_valued_220 (fun H locs hP hD hS => ?_)
          refine lv_istore_n (lv' := [(2, .int z220.1), (0, .ref a0), (1, .int x1)]) hx hb dX7_valued_223 rfl hl (by decide) rfl (fun ls hl => ?_)
          refine lv_aload_n hx hb dX7_valued_224 rfl (lv_at hl 1 rfl) ?_
          refine lv_aload_n hx hb dX7_valued_225 rfl (lv_at hl 1 rfl) ?_
          refine r_get F hK hP 0 3 rfl inW_X7 wm_1095 rfl (by decide) rfl dX7_valued_226 ?_
          refine lv_iload_n hx hb dX7_valued_229 rfl (lv_at hl 2 rfl) ?_
          obtain ⟨hi230, h⟩ := o_ix h
          refine va_iald hx hb hK hP 3 0 rfl rfl hi230 dX7_valued_230 ?_
          obtain ⟨z231, hz231, h⟩ := o_b h
          refine k_v (wn := (ws_X7_valued cI cJ cB a0 a_roots a_moved a_text a_out a_sum a_point a_pointRows a_pointSorts a_kind a_left a_right a_many a_bits a_rows a_table a_above a_below a_row thrown z231.2.1 rooted size outSize points takenOut z231.2.2.1 at_ fault open_ wrong by_ sort variable_ pointCount z231.2.2.2.1 z231.2.2.2.2.1 z231.2.2.2.2.2.1 z231.2.2.2.2.2.2.1 z231.2.2.2.2.2.2.2.1 z231.2.2.2.2.2.2.2.2.1 z231.2.2.2.2.2.2.2.2.2.1 above below_ z231.2.2.2.2.2.2.2.2.2.2)) (As := [.int (z220.2.2.2.2.2.1 x1.toNatClampNeg)]) (rest := []) F hNw hK hP hD hS hA (ih_X7_valued a0 a_roots a_moved a_text a_out a_sum a_point a_pointRows a_pointSorts a_kind a_left a_right a_many a_bits a_rows a_table a_above a_below a_row _ thrown z220.2.1 rooted size outSize points takenOut z220.2.2.1 at_ fault open_ wrong by_ sort variable_ pointCount z220.2.2.2.1 z220.2.2.2.2.1 z220.2.2.2.2.2.1 z220.2.2.2.2.2.2.1 z220.2.2.2.2.2.2.2.1 z220.2.2.2.2.2.2.2.2.1 z220.2.2.2.2.2.2.2.2.2.1 above below_ z220.2.2.2.2.2.2.2.2.2.2 (z220.2.2.2.2.2.1 x1.toNatClampNeg) hz231) wm_1347 cv_X7_valued [0, 1, 2, 3, 4, 5, 6, 7, 8, 9, 10] [] [0, 1, 2, 3, 4, 5, 6, 7, 8, 9, 10] (⟨rfl, rfl, rfl, by decide, rfl⟩ : Ix [0, 1, 2, 3, 4, 5, 6, 7, 8, 9, 10] [] [0, 1, 2, 3, 4, 5, 6, 7, 8, 9, 10] 11) rfl (hN_of 0 11 (by decide +kernel) rfl (by decide +kernel) rfl) rfl rfl rfl rfl ⟨rfl, rfl, by show 3 + d + 1 ≤ 3 + (d + 1); omega, by show 8 + (9 + 11) + (81 + 28 * d) ≤ 81 + 28 * (d + 1); omega⟩ hl.1 rfl (Nat.le_of_ble_eq_true rfl) ⟨Nat.zero_le _, Nat.zero_le _⟩ dX7_valued_231 (fun H locs hP hD hS => ?_)
          refine lv_istore_n (lv' := [(3, .int z231.1), (2, .int z220.1), (0, .ref a0), (1, .int x1)]) hx hb dX7_valued_234 rfl hl (by decide) rfl (fun ls hl => ?_)
          refine lv_aload_n hx hb dX7_valued_235 rfl (lv_at hl 2 rfl) ?_
          refine r_get F hK hP 0 20 rfl inW_X7 wm_1112 rfl (by decide) rfl dX7_valued_236 ?_
          refine lv_if_eq (tgt := 246) hx hb dX7_valued_239 (by decide) (fun c239 => ?_) (fun c239 => ?_)
          · have h := o_t c239 h
            refine lv_aload_n hx hb dX7_valued_246 rfl (lv_at hl 2 rfl) ?_
            refine lv_aload_n hx hb dX7_valued_247 rfl (lv_at hl 2 rfl) ?_
            refine r_get F hK hP 0 1 rfl inW_X7 wm_1093 rfl (by decide) rfl dX7_valued_248 ?_
            refine lv_iload_n hx hb dX7_valued_251 rfl (lv_at hl 3 rfl) ?_
            obtain ⟨hi252, h⟩ := o_ix h
            refine va_iald hx hb hK hP 1 0 rfl rfl hi252 dX7_valued_252 ?_
            refine lv_iconst (v := 3) hx hb dX7_valued_253 (by decide) ?_
            refine lv_icmp_ne (tgt := 261) hx hb dX7_valued_254 (by decide) (fun c254 => ?_) (fun c254 => ?_)
            · have h := o_f c254 h
              refine lv_iconst (v := 0) hx hb dX7_valued_261 (by decide) ?_
              exact w_X7_valued_262 CX hK hsz (ih_X7_valued := ih_X7_valued) z231.2.1 z231.2.2.1 z231.2.2.2.1 z231.2.2.2.2.1 z231.2.2.2.2.2.1 z231.2.2.2.2.2.2.1 z231.2.2.2.2.2.2.2.1 z231.2.2.2.2.2.2.2.2.1 z231.2.2.2.2.2.2.2.2.2.1 z231.2.2.2.2.2.2.2.2.2.2 z220.1 z231.1 0 _ _ _ h hP hD hS (lv_sub hl [1, 0] rfl)
            · have h := o_t c254 h
              refine lv_iconst (v := 1) hx hb dX7_valued_257 (by decide) ?_
              refine lv_goto (tgt := 262) hx hb dX7_valued_258 (by decide) ?_
              exact w_X7_valued_262 CX hK hsz (ih_X7_valued := ih_X7_valued) z231.2.1 z231.2.2.1 z231.2.2.2.1 z231.2.2.2.2.1 z231.2.2.2.2.2.1 z231.2.2.2.2.2.2.1 z231.2.2.2.2.2.2.2.1 z231.2.2.2.2.2.2.2.2.1 z231.2.2.2.2.2.2.2.2.2.1 z231.2.2.2.2.2.2.2.2.2.2 z220.1 z231.1 1 _ _ _ h hP hD hS (lv_sub hl [1, 0] rfl)
          · have h := o_f c239 h
            refine lv_iconst (v := 0) hx hb dX7_valued_242 (by decide) ?_
            refine lv_goto (tgt := 267) hx hb dX7_valued_243 (by decide) ?_
            exact w_X7_valued_267 CX hK hsz (ih_X7_valued := ih_X7_valued) z231.2.1 z231.2.2.1 z231.2.2.2.1 z231.2.2.2.2.1 z231.2.2.2.2.2.1 z231.2.2.2.2.2.2.1 z231.2.2.2.2.2.2.2.1 z231.2.2.2.2.2.2.2.2.1 z231.2.2.2.2.2.2.2.2.2.1 z231.2.2.2.2.2.2.2.2.2.2 0 _ _ _ h hP hD hS (lv_sub hl [] rfl)
        · have h := o_f c161 h
          refine lv_aload_n hx hb dX7_valued_164 rfl (lv_at hl 0 rfl) ?_
          refine lv_aload_n hx hb dX7_valued_165 rfl (lv_at hl 0 rfl) ?_
          refine r_get F hK hP 0 3 rfl inW_X7 wm_1095 rfl (by decide) rfl dX7_valued_166 ?_
          refine lv_iload_n hx hb dX7_valued_169 rfl (lv_at hl 1 rfl) ?_
          obtain ⟨hi170, h⟩ := o_ix h
          refine va_iald hx hb hK hP 3 0 rfl rfl hi170 dX7_valued_170 ?_
          obtain ⟨z171, hz171, h⟩ := o_b h
          refine k_v (wn := (ws_X7_valued cI cJ cB a0 a_roots a_moved a_text a_out a_sum a_point a_pointRows a_pointSorts a_kind a_left a_right a_many a_bits a_rows a_table a_above a_below a_row thrown z171.2.1 rooted size outSize points takenOut z171.2.2.1 at_ fault open_ wrong by_ sort variable_ pointCount z171.2.2.2.1 z171.2.2.2.2.1 z171.2.2.2.2.2.1 z171.2.2.2.2.2.2.1 z171.2.2.2.2.2.2.2.1 z171.2.2.2.2.2.2.2.2.1 z171.2.2.2.2.2.2.2.2.2.1 above below_ z171.2.2.2.2.2.2.2.2.2.2)) (As := [.int (right_ x1.toNatClampNeg)]) (rest := []) F hNw hK hP hD hS hA (ih_X7_valued a0 a_roots a_moved a_text a_out a_sum a_point a_pointRows a_pointSorts a_kind a_left a_right a_many a_bits a_rows a_table a_above a_below a_row _ thrown used rooted size outSize points takenOut great at_ fault open_ wrong by_ sort variable_ pointCount kind left_ right_ many bits rows table above below_ row (right_ x1.toNatClampNeg) hz171) wm_1347 cv_X7_valued [0, 1, 2, 3, 4, 5, 6, 7, 8, 9, 10] [] [0, 1, 2, 3, 4, 5, 6, 7, 8, 9, 10] (⟨rfl, rfl, rfl, by decide, rfl⟩ : Ix [0, 1, 2, 3, 4, 5, 6, 7, 8, 9, 10] [] [0, 1, 2, 3, 4, 5, 6, 7, 8, 9, 10] 11) rfl (hN_of 0 11 (by decide +kernel) rfl (by decide +kernel) rfl) rfl rfl rfl rfl ⟨rfl, rfl, by show 3 + d + 1 ≤ 3 + (d + 1); omega, by show 8 + (9 + 11) + (81 + 28 * d) ≤ 81 + 28 * (d + 1); omega⟩ hl.1 rfl (Nat.le_of_ble_eq_true rfl) ⟨Nat.zero_le _, Nat.zero_le _⟩ dX7_valued_171 (fun H locs hP hD hS => ?_)
          refine lv_istore_n (lv' := [(2, .int z171.1), (0, .ref a0), (1, .int x1)]) hx hb dX7_valued_174 rfl hl (by decide) rfl (fun ls hl => ?_)
          refine lv_aload_n hx hb dX7_valued_175 rfl (lv_at hl 1 rfl) ?_
          refine r_get F hK hP 0 20 rfl inW_X7 wm_1112 rfl (by decide) rfl dX7_valued_176 ?_
          refine lv_if_eq (tgt := 186) hx hb dX7_valued_179 (by decide) (fun c179 => ?_) (fun c179 => ?_)
          · have h := o_t c179 h
            refine lv_aload_n hx hb dX7_valued_186 rfl (lv_at hl 1 rfl) ?_
            refine lv_aload_n hx hb dX7_valued_187 rfl (lv_at hl 1 rfl) ?_
            refine r_get F hK hP 0 1 rfl inW_X7 wm_1093 rfl (by decide) rfl dX7_valued_188 ?_
            refine lv_iload_n hx hb dX7_valued_191 rfl (lv_at hl 2 rfl) ?_
            obtain ⟨hi192, h⟩ := o_ix h
            refine va_iald hx hb hK hP 1 0 rfl rfl hi192 dX7_valued_192 ?_
            refine lv_iconst (v := 5) hx hb dX7_valued_193 (by decide) ?_
            refine lv_icmp_ne (tgt := 201) hx hb dX7_valued_194 (by decide) (fun c194 => ?_) (fun c194 => ?_)
            · have h := o_f c194 h
              refine lv_iconst (v := 0) hx hb dX7_valued_201 (by decide) ?_
              exact w_X7_valued_202 CX hK hsz (ih_X7_valued := ih_X7_valued) z171.2.1 z171.2.2.1 z171.2.2.2.1 z171.2.2.2.2.1 z171.2.2.2.2.2.1 z171.2.2.2.2.2.2.1 z171.2.2.2.2.2.2.2.1 z171.2.2.2.2.2.2.2.2.1 z171.2.2.2.2.2.2.2.2.2.1 z171.2.2.2.2.2.2.2.2.2.2 x1 z171.1 0 _ _ _ h hP hD hS (lv_sub hl [1, 2, 0] rfl)
            · have h := o_t c194 h
              refine lv_iconst (v := 1) hx hb dX7_valued_197 (by decide) ?_
              refine lv_goto (tgt := 202) hx hb dX7_valued_198 (by decide) ?_
              exact w_X7_valued_202 CX hK hsz (ih_X7_valued := ih_X7_valued) z171.2.1 z171.2.2.1 z171.2.2.2.1 z171.2.2.2.2.1 z171.2.2.2.2.2.1 z171.2.2.2.2.2.2.1 z171.2.2.2.2.2.2.2.1 z171.2.2.2.2.2.2.2.2.1 z171.2.2.2.2.2.2.2.2.2.1 z171.2.2.2.2.2.2.2.2.2.2 x1 z171.1 1 _ _ _ h hP hD hS (lv_sub hl [1, 2, 0] rfl)
          · have h := o_f c179 h
            refine lv_iconst (v := 0) hx hb dX7_valued_182 (by decide) ?_
            refine lv_goto (tgt := 212) hx hb dX7_valued_183 (by decide) ?_
            exact w_X7_valued_212 CX hK hsz (ih_X7_valued := ih_X7_valued) z171.2.1 z171.2.2.1 z171.2.2.2.1 z171.2.2.2.2.1 z171.2.2.2.2.2.1 z171.2.2.2.2.2.2.1 z171.2.2.2.2.2.2.2.1 z171.2.2.2.2.2.2.2.2.1 z171.2.2.2.2.2.2.2.2.2.1 z171.2.2.2.2.2.2.2.2.2.2 0 _ _ _ h hP hD hS (lv_sub hl [] rfl)
      · have h := o_t c32 h
        refine lv_aload_n hx hb dX7_valued_35 rfl (lv_at hl 0 rfl) ?_
        refine r_get F hK hP 0 16 rfl inW_X7 wm_1108 rfl (by decide) rfl dX7_valued_36 ?_
        refine lv_aload_n hx hb dX7_valued_39 rfl (lv_at hl 0 rfl) ?_
        refine r_get F hK hP 0 30 rfl inW_X7 wm_1122 rfl (by decide) rfl dX7_valued_40 ?_
        obtain ⟨hi43, h⟩ := o_ix h
        refine va_iald hx hb hK hP 8 0 rfl rfl hi43 dX7_valued_43 ?_
        refine lv_i2l hx hb dX7_valued_44 rfl ?_
        refine lv_lstore_n (lv' := [(2, .long ((above variable_.toNatClampNeg).toInt64)), (0, .ref a0), (1, .int x1)]) hx hb dX7_valued_45 rfl hl (by decide) rfl (fun ls hl => ?_)
        refine lv_aload_n hx hb dX7_valued_46 rfl (lv_at hl 1 rfl) ?_
        refine r_get F hK hP 0 17 rfl inW_X7 wm_1109 rfl (by decide) rfl dX7_valued_47 ?_
        refine lv_aload_n hx hb dX7_valued_50 rfl (lv_at hl 1 rfl) ?_
        refine r_get F hK hP 0 30 rfl inW_X7 wm_1122 rfl (by decide) rfl dX7_valued_51 ?_
        obtain ⟨hi54, h⟩ := o_ix h
        refine va_iald hx hb hK hP 9 0 rfl rfl hi54 dX7_valued_54 ?_
        refine lv_i2l hx hb dX7_valued_55 rfl ?_
        refine lv_lstore (lv' := [(4, .long ((below_ variable_.toNatClampNeg).toInt64)), (2, .long ((above variable_.toNatClampNeg).toInt64)), (0, .ref a0), (1, .int x1)]) hx hb dX7_valued_56 hl (by decide) rfl (fun ls hl => ?_)
        refine lv_aload_n hx hb dX7_valued_58 rfl (lv_at hl 2 rfl) ?_
        refine r_get F hK hP 0 6 rfl inW_X7 wm_1098 rfl (by decide) rfl dX7_valued_59 ?_
        refine lv_bipush (v := 9) hx hb dX7_valued_62 (by decide) ?_
        refine lv_iload_n hx hb dX7_valued_64 rfl (lv_at hl 3 rfl) ?_
        refine lv_imul hx hb dX7_valued_65 ?_
        refine lv_aload_n hx hb dX7_valued_66 rfl (lv_at hl 2 rfl) ?_
        refine r_get F hK hP 0 30 rfl inW_X7 wm_1122 rfl (by decide) rfl dX7_valued_67 ?_
        refine lv_iadd hx hb dX7_valued_70 ?_
        obtain ⟨hi71, h⟩ := o_ix h
        refine va_iald hx hb hK hP 6 0 rfl rfl hi71 dX7_valued_71 ?_
        refine lv_i2l hx hb dX7_valued_72 rfl ?_
        refine lv_lstore (lv' := [(6, .long ((rows ((9 * x1) + variable_).toNatClampNeg).toInt64)), (4, .long ((below_ variable_.toNatClampNeg).toInt64)), (2, .long ((above variable_.toNatClampNeg).toInt64)), (0, .ref a0), (1, .int x1)]) hx hb dX7_valued_73 hl (by decide) rfl (fun ls hl => ?_)
        refine lv_iconst (v := 0) hx hb dX7_valued_75 (by decide) ?_
        refine lv_istore (lv' := [(8, .int 0), (6, .long ((rows ((9 * x1) + variable_).toNatClampNeg).toInt64)), (4, .long ((below_ variable_.toNatClampNeg).toInt64)), (2, .long ((above variable_.toNatClampNeg).toInt64)), (0, .ref a0), (1, .int x1)]) hx hb dX7_valued_76 hl (by decide) rfl (fun ls hl => ?_)
        exact w_X7_valued_78 CX hK hsz (ih_X7_valued := ih_X7_valued) N used great kind left_ right_ many bits rows table row x1 ((above variable_.toNatClampNeg).toInt64) ((below_ variable_.toNatClampNeg).toInt64) ((rows ((9 * x1) + variable_).toNatClampNeg).toInt64) 0 _ _ _ h hP hD hS (lv_sub hl [4, 5, 3, 2, 1, 0] rfl)
    · have h := o_f c20 h
      exact w_X7_valued_23 CX hK hsz (ih_X7_valued := ih_X7_valued) used great kind left_ right_ many bits rows table row x1 _ _ _ h hP hD hS (lv_sub hl [1] rfl)
def fg_valued (N : Nat) : Nat → (Int32 → Int32 → Int32 → (Nat → Int32) → (Nat → Int32) → (Nat → Int32) → (Nat → Int32) → (Nat → Int32) → (Nat → Int32) → (Nat → Int32) → (Nat → Int32) → (Nat → Int32) → (Nat → Int64) → Int32 → Option (Int32 × (Int32) × (Int32) × (Nat → Int32) × (Nat → Int32) × (Nat → Int32) × (Nat → Int32) × (Nat → Int32) × (Nat → Int32) × (Nat → Int32) × (Nat → Int64)))
  | 0 => fun _ _ _ _ _ _ _ _ _ _ _ _ _ _ => none
  | d + 1 => F_X7_valued (fg_valued N d) N
theorem cg_valued (l : Launch) (D : va_G) (cI cJ cB : ClassId) (N : Nat) : ∀ d : Nat, CP_X7_valued l D cI cJ cB (rmg_valued d) (fg_valued N d) := by
  intro d
  induction d with
  | zero =>
    exact (by intro a0 a_roots a_moved a_text a_out a_sum a_point a_pointRows a_pointSorts a_kind a_left a_right a_many a_bits a_rows a_table a_above a_below a_row sz thrown used rooted size outSize points takenOut great at_ fault open_ wrong by_ sort variable_ pointCount kind left_ right_ many bits rows table above below_ row x1 z h; cases h)
  | succ d ih =>
    exact cF_X7_valued l D cI cJ cB N d ih
def f_X7_valued (N : Nat) (used : Int32) (great : Int32) (variable_ : Int32) (kind : Nat → Int32) (left_ : Nat → Int32) (right_ : Nat → Int32) (many : Nat → Int32) (bits : Nat → Int32) (rows : Nat → Int32) (table : Nat → Int32) (above : Nat → Int32) (below_ : Nat → Int32) (row : Nat → Int64) (x1 : Int32) : Option (Int32 × (Int32) × (Int32) × (Nat → Int32) × (Nat → Int32) × (Nat → Int32) × (Nat → Int32) × (Nat → Int32) × (Nat → Int32) × (Nat → Int32) × (Nat → Int64)) := (fg_valued N 450) used great variable_ kind left_ right_ many bits rows table above below_ row x1
abbrev rm_X7_valued : Room := { frames := 453, cells := 0, slots := 0, locals := 12681 }
theorem c_X7_valued (l : Launch) (D : va_G) (cI cJ cB : ClassId) (a0 a_roots a_moved a_text a_out a_sum a_point a_pointRows a_pointSorts a_kind a_left a_right a_many a_bits a_rows a_table a_above a_below a_row : Nat) (sz : Nat) (thrown : Int32) (used : Int32) (rooted : Int32) (size : Int32) (outSize : Int32) (points : Int32) (takenOut : Int32) (great : Int32) (at_ : Int32) (fault : Int32) (open_ : Int32) (wrong : Int32) (by_ : Int64) (sort : Int32) (variable_ : Int32) (pointCount : Int32) (kind : Nat → Int32) (left_ : Nat → Int32) (right_ : Nat → Int32) (many : Nat → Int32) (bits : Nat → Int32) (rows : Nat → Int32) (table : Nat → Int32) (above : Nat → Int32) (below_ : Nat → Int32) (row : Nat → Int64) (x1 : Int32) (N : Nat) {z : Int32 × (Int32) × (Int32) × (Nat → Int32) × (Nat → Int32) × (Nat → Int32) × (Nat → Int32) × (Nat → Int32) × (Nat → Int32) × (Nat → Int32) × (Nat → Int64)} (h : f_X7_valued N used great variable_ kind left_ right_ many bits rows table above below_ row x1 = some z) : Mg l yX7_valued cX7_valued 9 (some .int) rm_X7_valued D (ty0 cI cJ cB) [.ref a0, .int x1] sz (ws_X7_valued cI cJ cB a0 a_roots a_moved a_text a_out a_sum a_point a_pointRows a_pointSorts a_kind a_left a_right a_many a_bits a_rows a_table a_above a_below a_row thrown used rooted size outSize points takenOut great at_ fault open_ wrong by_ sort variable_ pointCount kind left_ right_ many bits rows table above below_ row) (some (.int z.1)) (ws_X7_valued cI cJ cB a0 a_roots a_moved a_text a_out a_sum a_point a_pointRows a_pointSorts a_kind a_left a_right a_many a_bits a_rows a_table a_above a_below a_row thrown z.2.1 rooted size outSize points takenOut z.2.2.1 at_ fault open_ wrong by_ sort variable_ pointCount z.2.2.2.1 z.2.2.2.2.1 z.2.2.2.2.2.1 z.2.2.2.2.2.2.1 z.2.2.2.2.2.2.2.1 z.2.2.2.2.2.2.2.2.1 z.2.2.2.2.2.2.2.2.2.1 above below_ z.2.2.2.2.2.2.2.2.2.2) :=
  (cg_valued l D cI cJ cB N 450) a0 a_roots a_moved a_text a_out a_sum a_point a_pointRows a_pointSorts a_kind a_left a_right a_many a_bits a_rows a_table a_above a_below a_row sz thrown used rooted size outSize points takenOut great at_ fault open_ wrong by_ sort variable_ pointCount kind left_ right_ many bits rows table above below_ row x1 h
abbrev rmg_sayAll (d : Nat) : Room := { frames := 3 + d, cells := 0, slots := 0, locals := 68 + 21 * d }
abbrev ws_X7_sayAll (cI cJ cB : ClassId) (a0 a_many a_bits a_table a_roots a_moved a_text a_above a_below a_row a_sum a_point a_pointRows a_pointSorts a_kind a_left a_right a_rows a_out : Nat) (thrown : Int32) (used : Int32) (rooted : Int32) (size : Int32) (outSize : Int32) (points : Int32) (takenOut : Int32) (great : Int32) (at_ : Int32) (fault : Int32) (open_ : Int32) (wrong : Int32) (by_ : Int64) (sort : Int32) (variable_ : Int32) (pointCount : Int32) (kind : Nat → Int32) (left_ : Nat → Int32) (right_ : Nat → Int32) (rows : Nat → Int32) (out : Nat → Int32) : va_W := [(a0, .inr (9, [.int thrown, .ref a_kind, .ref a_left, .ref a_right, .ref a_many, .ref a_bits, .ref a_rows, .ref a_table, .int used, .ref a_roots, .int rooted, .ref a_moved, .ref a_text, .int size, .ref a_out, .int outSize, .ref a_above, .ref a_below, .int points, .int takenOut, .int great, .ref a_row, .int at_, .int fault, .int open_, .int wrong, .ref a_sum, .ref a_point, .long by_, .int sort, .int variable_, .ref a_pointRows, .ref a_pointSorts, .int pointCount])), (a_kind, .inl (cI, 24000, .inl kind)), (a_left, .inl (cI, 24000, .inl left_)), (a_right, .inl (cI, 24000, .inl right_)), (a_rows, .inl (cI, 216000, .inl rows)), (a_out, .inl (cB, 12000, .inl out))]
def CP_X7_sayAll (l : Launch) (D : va_G) (cI cJ cB : ClassId) (rm : Room) (f : Int32 → (Nat → Int32) → (Nat → Int32) → (Nat → Int32) → (Nat → Int32) → (Nat → Int32) → Int32 → Option ((Int32) × (Nat → Int32))) : Prop := ∀ (a0 a_many a_bits a_table a_roots a_moved a_text a_above a_below a_row a_sum a_point a_pointRows a_pointSorts a_kind a_left a_right a_rows a_out : Nat) (sz : Nat) (thrown : Int32) (used : Int32) (rooted : Int32) (size : Int32) (outSize : Int32) (points : Int32) (takenOut : Int32) (great : Int32) (at_ : Int32) (fault : Int32) (open_ : Int32) (wrong : Int32) (by_ : Int64) (sort : Int32) (variable_ : Int32) (pointCount : Int32) (kind : Nat → Int32) (left_ : Nat → Int32) (right_ : Nat → Int32) (rows : Nat → Int32) (out : Nat → Int32) (x1 : Int32) {z : (Int32) × (Nat → Int32)}, f outSize kind left_ right_ rows out x1 = some z → Mg l yX7_sayAll cX7_sayAll 2 none rm D (ty0 cI cJ cB) [.ref a0, .int x1] sz (ws_X7_sayAll cI cJ cB a0 a_many a_bits a_table a_roots a_moved a_text a_above a_below a_row a_sum a_point a_pointRows a_pointSorts a_kind a_left a_right a_rows a_out thrown used rooted size outSize points takenOut great at_ fault open_ wrong by_ sort variable_ pointCount kind left_ right_ rows out) none (ws_X7_sayAll cI cJ cB a0 a_many a_bits a_table a_roots a_moved a_text a_above a_below a_row a_sum a_point a_pointRows a_pointSorts a_kind a_left a_right a_rows a_out thrown used rooted size z.1 points takenOut great at_ fault open_ wrong by_ sort variable_ pointCount kind left_ right_ rows z.2)
section G_X7_sayAll
def f_X7_sayAll_172 (R_X7_sayAll : Int32 → (Nat → Int32) → (Nat → Int32) → (Nat → Int32) → (Nat → Int32) → (Nat → Int32) → Int32 → Option ((Int32) × (Nat → Int32))) (N : Nat) (outSize : Int32) (kind : Nat → Int32) (left_ : Nat → Int32) (right_ : Nat → Int32) (rows : Nat → Int32) (out : Nat → Int32) : Option ((Int32) × (Nat → Int32)) := some (outSize, out)
def f_X7_sayAll_100 (R_X7_sayAll : Int32 → (Nat → Int32) → (Nat → Int32) → (Nat → Int32) → (Nat → Int32) → (Nat → Int32) → Int32 → Option ((Int32) × (Nat → Int32))) (N : Nat) (outSize : Int32) (kind : Nat → Int32) (left_ : Nat → Int32) (right_ : Nat → Int32) (rows : Nat → Int32) (out : Nat → Int32) (y1 : Int32) (s1 : Int32) : Option ((Int32) × (Nat → Int32)) := (f_X7_say N outSize out s1).bind (fun z100 => ix y1 24000 ((R_X7_sayAll z100.1 kind left_ right_ rows z100.2 (right_ y1.toNatClampNeg)).bind (fun z110 => (f_X7_say N z110.1 z110.2 41).bind (fun z116 => f_X7_sayAll_172 R_X7_sayAll N z116.1 kind left_ right_ rows z116.2))))
def f_X7_sayAll_66 (R_X7_sayAll : Int32 → (Nat → Int32) → (Nat → Int32) → (Nat → Int32) → (Nat → Int32) → (Nat → Int32) → Int32 → Option ((Int32) × (Nat → Int32))) (N : Nat) (outSize : Int32) (kind : Nat → Int32) (left_ : Nat → Int32) (right_ : Nat → Int32) (rows : Nat → Int32) (out : Nat → Int32) (y1 : Int32) : Option ((Int32) × (Nat → Int32)) := (f_X7_say N outSize out 40).bind (fun z69 => ix y1 24000 ((R_X7_sayAll z69.1 kind left_ right_ rows z69.2 (left_ y1.toNatClampNeg)).bind (fun z79 => ix y1 24000 (ifb ((kind y1.toNatClampNeg) = 3) (f_X7_sayAll_100 R_X7_sayAll N z79.1 kind left_ right_ rows z79.2 y1 38) (f_X7_sayAll_100 R_X7_sayAll N z79.1 kind left_ right_ rows z79.2 y1 124)))))
def f_X7_sayAll_140 (R_X7_sayAll : Int32 → (Nat → Int32) → (Nat → Int32) → (Nat → Int32) → (Nat → Int32) → (Nat → Int32) → Int32 → Option ((Int32) × (Nat → Int32))) (N : Nat) (outSize : Int32) (kind : Nat → Int32) (left_ : Nat → Int32) (right_ : Nat → Int32) (rows : Nat → Int32) (out : Nat → Int32) (y1 : Int32) (s1 : Int32) : Option ((Int32) × (Nat → Int32)) := (f_X7_say N outSize out s1).bind (fun z140 => ix y1 24000 ((f_X7_say N z140.1 z140.2 (97 + (left_ y1.toNatClampNeg))).bind (fun z153 => (f_X7_say N z153.1 z153.2 46).bind (fun z159 => ix y1 24000 ((R_X7_sayAll z159.1 kind left_ right_ rows z159.2 (right_ y1.toNatClampNeg)).bind (fun z169 => f_X7_sayAll_172 R_X7_sayAll N z169.1 kind left_ right_ rows z169.2))))))
def F_X7_sayAll (R_X7_sayAll : Int32 → (Nat → Int32) → (Nat → Int32) → (Nat → Int32) → (Nat → Int32) → (Nat → Int32) → Int32 → Option ((Int32) × (Nat → Int32))) (N : Nat) (outSize : Int32) (kind : Nat → Int32) (left_ : Nat → Int32) (right_ : Nat → Int32) (rows : Nat → Int32) (out : Nat → Int32) (x1 : Int32) : Option ((Int32) × (Nat → Int32)) := ix x1 24000 (ifb ((kind x1.toNatClampNeg).toInt < 0 ∨ 4 < (kind x1.toNatClampNeg).toInt) (ix x1 24000 (ifb ((kind x1.toNatClampNeg) = 5) (f_X7_sayAll_140 R_X7_sayAll N outSize kind left_ right_ rows out x1 69) (f_X7_sayAll_140 R_X7_sayAll N outSize kind left_ right_ rows out x1 65))) (ifb ((kind x1.toNatClampNeg) = 0) ((f_X7_say N outSize out 84).bind (fun z43 => f_X7_sayAll_172 R_X7_sayAll N z43.1 kind left_ right_ rows z43.2)) (ifb ((kind x1.toNatClampNeg) = 1) ((f_X7_say N outSize out 70).bind (fun z52 => f_X7_sayAll_172 R_X7_sayAll N z52.1 kind left_ right_ rows z52.2)) (ifb ((kind x1.toNatClampNeg) = 2) ((f_X7_sayAtom N outSize left_ rows out x1).bind (fun z60 => f_X7_sayAll_172 R_X7_sayAll N z60.1 kind left_ right_ rows z60.2)) (ifb ((kind x1.toNatClampNeg) = 3) (f_X7_sayAll_66 R_X7_sayAll N outSize kind left_ right_ rows out x1) (ifb ((kind x1.toNatClampNeg) = 4) (f_X7_sayAll_66 R_X7_sayAll N outSize kind left_ right_ rows out x1) (none)))))))
variable {p : Program} {l : Launch} {e : Env} {s : State} {m : MethodId} {below : List Frame} {meth : Method} {c : Code} {args : Array Value} {x0 : Cond} {D : va_G} {cI cJ cB : ClassId} {sz N : Nat} {ws0 : va_W} {a0 a_many a_bits a_table a_roots a_moved a_text a_above a_below a_row a_sum a_point a_pointRows a_pointSorts a_kind a_left a_right a_rows a_out : Nat} {thrown : Int32} {used : Int32} {rooted : Int32} {size : Int32} {points : Int32} {takenOut : Int32} {great : Int32} {at_ : Int32} {fault : Int32} {open_ : Int32} {wrong : Int32} {by_ : Int64} {sort : Int32} {variable_ : Int32} {pointCount : Int32} {kind : Nat → Int32} {left_ : Nat → Int32} {right_ : Nat → Int32} {rows : Nat → Int32} {z : (Int32) × (Nat → Int32)} {d : Nat} {R_X7_sayAll : Int32 → (Nat → Int32) → (Nat → Int32) → (Nat → Int32) → (Nat → Int32) → (Nat → Int32) → Int32 → Option ((Int32) × (Nat → Int32))}
set_option maxHeartbeats 4000000 in
set_option maxRecDepth 100000 in
theorem w_X7_sayAll_172 (CX : Cx p m c cX7_sayAll 2 s args x0 RX7 meth none) (hK : va_K D vwCl (ty0 cI cJ cB) s) (hsz : s.heap.size = sz) (ih_X7_sayAll : CP_X7_sayAll l D cI cJ cB (rmg_sayAll d) R_X7_sayAll) : ∀ (outSize : Int32) (out : Nat → Int32) (H : Heap) (locs : List Loc) (ls : Array Slot), f_X7_sayAll_172 R_X7_sayAll N outSize kind left_ right_ rows out = some z → va_P D vwCl (ws_X7_sayAll cI cJ cB a0 a_many a_bits a_table a_roots a_moved a_text a_above a_below a_row a_sum a_point a_pointRows a_pointSorts a_kind a_left a_right a_rows a_out thrown used rooted size outSize points takenOut great at_ fault open_ wrong by_ sort variable_ pointCount kind left_ right_ rows out) H → va_D (va_A ws0 sz) (ws_X7_sayAll cI cJ cB a0 a_many a_bits a_table a_roots a_moved a_text a_above a_below a_row a_sum a_point a_pointRows a_pointSorts a_kind a_left a_right a_rows a_out thrown used rooted size outSize points takenOut great at_ fault open_ wrong by_ sort variable_ pointCount kind left_ right_ rows out) → va_S (va_A ws0 sz) s.heap H locs → lv_has ls 2 [] → W p l e (rmg_sayAll (d + 1)) s m args below meth c H locs 0 0 (MQ below (gQ D sz ws0 (ws_X7_sayAll cI cJ cB a0 a_many a_bits a_table a_roots a_moved a_text a_above a_below a_row a_sum a_point a_pointRows a_pointSorts a_kind a_left a_right a_rows a_out thrown used rooted size z.1 points takenOut great at_ fault open_ wrong by_ sort variable_ pointCount kind left_ right_ rows z.2) none) args s 0 0 (va_A ws0 sz)) (F0 m 172 ls []) := by
  obtain ⟨F, hr, hlk, hNw⟩ := id CX
  have hx := F.1
  have hb := F.2.1
  have hown := F.2.2.2.1
  have hA : ∀ q, s.heap.size ≤ q → va_A ws0 sz q := fun q hq => Or.inr (hsz ▸ hq)
  intro outSize out H locs ls h hP hD hS hl
  unfold f_X7_sayAll_172 at h
  obtain rfl := Option.some.inj h
  exact r_vret F hr hlk dX7_sayAll_172 hsz hP hD hS
set_option maxHeartbeats 4000000 in
set_option maxRecDepth 100000 in
theorem w_X7_sayAll_100 (CX : Cx p m c cX7_sayAll 2 s args x0 RX7 meth none) (hK : va_K D vwCl (ty0 cI cJ cB) s) (hsz : s.heap.size = sz) (ih_X7_sayAll : CP_X7_sayAll l D cI cJ cB (rmg_sayAll d) R_X7_sayAll) : ∀ (outSize : Int32) (out : Nat → Int32) (y1 : Int32) (s1 : Int32) (H : Heap) (locs : List Loc) (ls : Array Slot), f_X7_sayAll_100 R_X7_sayAll N outSize kind left_ right_ rows out y1 s1 = some z → va_P D vwCl (ws_X7_sayAll cI cJ cB a0 a_many a_bits a_table a_roots a_moved a_text a_above a_below a_row a_sum a_point a_pointRows a_pointSorts a_kind a_left a_right a_rows a_out thrown used rooted size outSize points takenOut great at_ fault open_ wrong by_ sort variable_ pointCount kind left_ right_ rows out) H → va_D (va_A ws0 sz) (ws_X7_sayAll cI cJ cB a0 a_many a_bits a_table a_roots a_moved a_text a_above a_below a_row a_sum a_point a_pointRows a_pointSorts a_kind a_left a_right a_rows a_out thrown used rooted size outSize points takenOut great at_ fault open_ wrong by_ sort variable_ pointCount kind left_ right_ rows out) → va_S (va_A ws0 sz) s.heap H locs → lv_has ls 2 [(0, .ref a0), (1, .int y1)] → W p l e (rmg_sayAll (d + 1)) s m args below meth c H locs 0 0 (MQ below (gQ D sz ws0 (ws_X7_sayAll cI cJ cB a0 a_many a_bits a_table a_roots a_moved a_text a_above a_below a_row a_sum a_point a_pointRows a_pointSorts a_kind a_left a_right a_rows a_out thrown used rooted size z.1 points takenOut great at_ fault open_ wrong by_ sort variable_ pointCount kind left_ right_ rows z.2) none) args s 0 0 (va_A ws0 sz)) (F0 m 100 ls [.int s1, .ref a0]) := by
  obtain ⟨F, hr, hlk, hNw⟩ := id CX
  have hx := F.1
  have hb := F.2.1
  have hown := F.2.2.2.1
  have hA : ∀ q, s.heap.size ≤ q → va_A ws0 sz q := fun q hq => Or.inr (hsz ▸ hq)
  intro outSize out y1 s1 H locs ls h hP hD hS hl
  unfold f_X7_sayAll_100 at h
  obtain ⟨z100, hz100, h⟩ := o_b h
  refine k_v (wn := (ws_X7_sayAll cI cJ cB a0 a_many a_bits a_table a_roots a_moved a_text a_above a_below a_row a_sum a_point a_pointRows a_pointSorts a_kind a_left a_right a_rows a_out thrown used rooted size z100.1 points takenOut great at_ fault open_ wrong by_ sort variable_ pointCount kind left_ right_ rows z100.2)) (As := [.int s1]) (rest := []) F hNw hK hP hD hS hA (c_X7_say l D cI cJ cB a0 a_kind a_left a_right a_many a_bits a_rows a_table a_roots a_moved a_text a_above a_below a_row a_sum a_point a_pointRows a_pointSorts a_out _ thrown used rooted size outSize points takenOut great at_ fault open_ wrong by_ sort variable_ pointCount out s1 N hz100) wm_1367 cv_X7_say [0, 5] [1, 2, 3, 4] [4, 0, 1, 2, 3, 5] (⟨rfl, rfl, rfl, by decide, rfl⟩ : Ix [0, 5] [1, 2, 3, 4] [4, 0, 1, 2, 3, 5] 6) rfl (hN_of 4 6 (by decide +kernel) rfl (by decide +kernel) rfl) rfl rfl rfl rfl ⟨rfl, rfl, by show 0 + 1 ≤ 3 + (d + 1); omega, by show 8 + (2 + 11) + 0 ≤ 68 + 21 * (d + 1); omega⟩ hl.1 rfl (Nat.le_of_ble_eq_true rfl) ⟨Nat.zero_le _, Nat.zero_le _⟩ dX7_sayAll_100 (fun H locs hP hD hS => ?_)
  refine lv_aload_n hx hb dX7_sayAll_103 rfl (lv_at hl 0 rfl) ?_
  refine lv_aload_n hx hb dX7_sayAll_104 rfl (lv_at hl 0 rfl) ?_
  refine r_get F hK hP 0 3 rfl inW_X7 wm_1095 rfl (by decide) rfl dX7_sayAll_105 ?_
  refine lv_iload_n hx hb dX7_sayAll_108 rfl (lv_at hl 1 rfl) ?_
  obtain ⟨hi109, h⟩ := o_ix h
  refine va_iald hx hb hK hP 3 0 rfl rfl hi109 dX7_sayAll_109 ?_
  obtain ⟨z110, hz110, h⟩ := o_b h
  refine k_v (wn := (ws_X7_sayAll cI cJ cB a0 a_many a_bits a_table a_roots a_moved a_text a_above a_below a_row a_sum a_point a_pointRows a_pointSorts a_kind a_left a_right a_rows a_out thrown used rooted size z110.1 points takenOut great at_ fault open_ wrong by_ sort variable_ pointCount kind left_ right_ rows z110.2)) (As := [.int (right_ y1.toNatClampNeg)]) (rest := []) F hNw hK hP hD hS hA (ih_X7_sayAll a0 a_many a_bits a_table a_roots a_moved a_text a_above a_below a_row a_sum a_point a_pointRows a_pointSorts a_kind a_left a_right a_rows a_out _ thrown used rooted size z100.1 points takenOut great at_ fault open_ wrong by_ sort variable_ pointCount kind left_ right_ rows z100.2 (right_ y1.toNatClampNeg) hz110) wm_1363 cv_X7_sayAll [0, 1, 2, 3, 4, 5] [] [0, 1, 2, 3, 4, 5] (⟨rfl, rfl, rfl, by decide, rfl⟩ : Ix [0, 1, 2, 3, 4, 5] [] [0, 1, 2, 3, 4, 5] 6) rfl (hN_of 0 6 (by decide +kernel) rfl (by decide +kernel) rfl) rfl rfl rfl rfl ⟨rfl, rfl, by show 3 + d + 1 ≤ 3 + (d + 1); omega, by show 8 + (2 + 11) + (68 + 21 * d) ≤ 68 + 21 * (d + 1); omega⟩ hl.1 rfl (Nat.le_of_ble_eq_true rfl) ⟨Nat.zero_le _, Nat.zero_le _⟩ dX7_sayAll_110 (fun H locs hP hD hS => ?_)
  refine lv_aload_n hx hb dX7_sayAll_113 rfl (lv_at hl 0 rfl) ?_
  refine lv_bipush (v := 41) hx hb dX7_sayAll_114 (by decide) ?_
  obtain ⟨z116, hz116, h⟩ := o_b h
  refine k_v (wn := (ws_X7_sayAll cI cJ cB a0 a_many a_bits a_table a_roots a_moved a_text a_above a_below a_row a_sum a_point a_pointRows a_pointSorts a_kind a_left a_right a_rows a_out thrown used rooted size z116.1 points takenOut great at_ fault open_ wrong by_ sort variable_ pointCount kind left_ right_ rows z116.2)) (As := [.int 41]) (rest := []) F hNw hK hP hD hS hA (c_X7_say l D cI cJ cB a0 a_kind a_left a_right a_many a_bits a_rows a_table a_roots a_moved a_text a_above a_below a_row a_sum a_point a_pointRows a_pointSorts a_out _ thrown used rooted size z110.1 points takenOut great at_ fault open_ wrong by_ sort variable_ pointCount z110.2 41 N hz116) wm_1367 cv_X7_say [0, 5] [1, 2, 3, 4] [4, 0, 1, 2, 3, 5] (⟨rfl, rfl, rfl, by decide, rfl⟩ : Ix [0, 5] [1, 2, 3, 4] [4, 0, 1, 2, 3, 5] 6) rfl (hN_of 4 6 (by decide +kernel) rfl (by decide +kernel) rfl) rfl rfl rfl rfl ⟨rfl, rfl, by show 0 + 1 ≤ 3 + (d + 1); omega, by show 8 + (2 + 11) + 0 ≤ 68 + 21 * (d + 1); omega⟩ hl.1 rfl (Nat.le_of_ble_eq_true rfl) ⟨Nat.zero_le _, Nat.zero_le _⟩ dX7_sayAll_116 (fun H locs hP hD hS => ?_)
  refine lv_goto (tgt := 172) hx hb dX7_sayAll_119 (by decide) ?_
  exact w_X7_sayAll_172 CX hK hsz (ih_X7_sayAll := ih_X7_sayAll) z116.1 z116.2 _ _ _ h hP hD hS (lv_sub hl [] rfl)
set_option maxHeartbeats 4000000 in
set_option maxRecDepth 100000 in
theorem w_X7_sayAll_66 (CX : Cx p m c cX7_sayAll 2 s args x0 RX7 meth none) (hK : va_K D vwCl (ty0 cI cJ cB) s) (hsz : s.heap.size = sz) (ih_X7_sayAll : CP_X7_sayAll l D cI cJ cB (rmg_sayAll d) R_X7_sayAll) : ∀ (outSize : Int32) (out : Nat → Int32) (y1 : Int32) (H : Heap) (locs : List Loc) (ls : Array Slot), f_X7_sayAll_66 R_X7_sayAll N outSize kind left_ right_ rows out y1 = some z → va_P D vwCl (ws_X7_sayAll cI cJ cB a0 a_many a_bits a_table a_roots a_moved a_text a_above a_below a_row a_sum a_point a_pointRows a_pointSorts a_kind a_left a_right a_rows a_out thrown used rooted size outSize points takenOut great at_ fault open_ wrong by_ sort variable_ pointCount kind left_ right_ rows out) H → va_D (va_A ws0 sz) (ws_X7_sayAll cI cJ cB a0 a_many a_bits a_table a_roots a_moved a_text a_above a_below a_row a_sum a_point a_pointRows a_pointSorts a_kind a_left a_right a_rows a_out thrown used rooted size outSize points takenOut great at_ fault open_ wrong by_ sort variable_ pointCount kind left_ right_ rows out) → va_S (va_A ws0 sz) s.heap H locs → lv_has ls 2 [(0, .ref a0), (1, .int y1)] → W p l e (rmg_sayAll (d + 1)) s m args below meth c H locs 0 0 (MQ below (gQ D sz ws0 (ws_X7_sayAll cI cJ cB a0 a_many a_bits a_table a_roots a_moved a_text a_above a_below a_row a_sum a_point a_pointRows a_pointSorts a_kind a_left a_right a_rows a_out thrown used rooted size z.1 points takenOut great at_ fault open_ wrong by_ sort variable_ pointCount kind left_ right_ rows z.2) none) args s 0 0 (va_A ws0 sz)) (F0 m 66 ls []) := by
  obtain ⟨F, hr, hlk, hNw⟩ := id CX
  have hx := F.1
  have hb := F.2.1
  have hown := F.2.2.2.1
  have hA : ∀ q, s.heap.size ≤ q → va_A ws0 sz q := fun q hq => Or.inr (hsz ▸ hq)
  intro outSize out y1 H locs ls h hP hD hS hl
  unfold f_X7_sayAll_66 at h
  refine lv_aload_n hx hb dX7_sayAll_66 rfl (lv_at hl 0 rfl) ?_
  refine lv_bipush (v := 40) hx hb dX7_sayAll_67 (by decide) ?_
  obtain ⟨z69, hz69, h⟩ := o_b h
  refine k_v (wn := (ws_X7_sayAll cI cJ cB a0 a_many a_bits a_table a_roots a_moved a_text a_above a_below a_row a_sum a_point a_pointRows a_pointSorts a_kind a_left a_right a_rows a_out thrown used rooted size z69.1 points takenOut great at_ fault open_ wrong by_ sort variable_ pointCount kind left_ right_ rows z69.2)) (As := [.int 40]) (rest := []) F hNw hK hP hD hS hA (c_X7_say l D cI cJ cB a0 a_kind a_left a_right a_many a_bits a_rows a_table a_roots a_moved a_text a_above a_below a_row a_sum a_point a_pointRows a_pointSorts a_out _ thrown used rooted size outSize points takenOut great at_ fault open_ wrong by_ sort variable_ pointCount out 40 N hz69) wm_1367 cv_X7_say [0, 5] [1, 2, 3, 4] [4, 0, 1, 2, 3, 5] (⟨rfl, rfl, rfl, by decide, rfl⟩ : Ix [0, 5] [1, 2, 3, 4] [4, 0, 1, 2, 3, 5] 6) rfl (hN_of 4 6 (by decide +kernel) rfl (by decide +kernel) rfl) rfl rfl rfl rfl ⟨rfl, rfl, by show 0 + 1 ≤ 3 + (d + 1); omega, by show 8 + (2 + 11) + 0 ≤ 68 + 21 * (d + 1); omega⟩ hl.1 rfl (Nat.le_of_ble_eq_true rfl) ⟨Nat.zero_le _, Nat.zero_le _⟩ dX7_sayAll_69 (fun H locs hP hD hS => ?_)
  refine lv_aload_n hx hb dX7_sayAll_72 rfl (lv_at hl 0 rfl) ?_
  refine lv_aload_n hx hb dX7_sayAll_73 rfl (lv_at hl 0 rfl) ?_
  refine r_get F hK hP 0 2 rfl inW_X7 wm_1094 rfl (by decide) rfl dX7_sayAll_74 ?_
  refine lv_iload_n hx hb dX7_sayAll_77 rfl (lv_at hl 1 rfl) ?_
  obtain ⟨hi78, h⟩ := o_ix h
  refine va_iald hx hb hK hP 2 0 rfl rfl hi78 dX7_sayAll_78 ?_
  obtain ⟨z79, hz79, h⟩ := o_b h
  refine k_v (wn := (ws_X7_sayAll cI cJ cB a0 a_many a_bits a_table a_roots a_moved a_text a_above a_below a_row a_sum a_point a_pointRows a_pointSorts a_kind a_left a_right a_rows a_out thrown used rooted size z79.1 points takenOut great at_ fault open_ wrong by_ sort variable_ pointCount kind left_ right_ rows z79.2)) (As := [.int (left_ y1.toNatClampNeg)]) (rest := []) F hNw hK hP hD hS hA (ih_X7_sayAll a0 a_many a_bits a_table a_roots a_moved a_text a_above a_below a_row a_sum a_point a_pointRows a_pointSorts a_kind a_left a_right a_rows a_out _ thrown used rooted size z69.1 points takenOut great at_ fault open_ wrong by_ sort variable_ pointCount kind left_ right_ rows z69.2 (left_ y1.toNatClampNeg) hz79) wm_1363 cv_X7_sayAll [0, 1, 2, 3, 4, 5] [] [0, 1, 2, 3, 4, 5] (⟨rfl, rfl, rfl, by decide, rfl⟩ : Ix [0, 1, 2, 3, 4, 5] [] [0, 1, 2, 3, 4, 5] 6) rfl (hN_of 0 6 (by decide +kernel) rfl (by decide +kernel) rfl) rfl rfl rfl rfl ⟨rfl, rfl, by show 3 + d + 1 ≤ 3 + (d + 1); omega, by show 8 + (2 + 11) + (68 + 21 * d) ≤ 68 + 21 * (d + 1); omega⟩ hl.1 rfl (Nat.le_of_ble_eq_true rfl) ⟨Nat.zero_le _, Nat.zero_le _⟩ dX7_sayAll_79 (fun H locs hP hD hS => ?_)
  refine lv_aload_n hx hb dX7_sayAll_82 rfl (lv_at hl 0 rfl) ?_
  refine lv_aload_n hx hb dX7_sayAll_83 rfl (lv_at hl 0 rfl) ?_
  refine r_get F hK hP 0 1 rfl inW_X7 wm_1093 rfl (by decide) rfl dX7_sayAll_84 ?_
  refine lv_iload_n hx hb dX7_sayAll_87 rfl (lv_at hl 1 rfl) ?_
  obtain ⟨hi88, h⟩ := o_ix h
  refine va_iald hx hb hK hP 1 0 rfl rfl hi88 dX7_sayAll_88 ?_
  refine lv_iconst (v := 3) hx hb dX7_sayAll_89 (by decide) ?_
  refine lv_icmp_ne (tgt := 98) hx hb dX7_sayAll_90 (by decide) (fun c90 => ?_) (fun c90 => ?_)
  · have h := o_f c90 h
    refine lv_bipush (v := 124) hx hb dX7_sayAll_98 (by decide) ?_
    exact w_X7_sayAll_100 CX hK hsz (ih_X7_sayAll := ih_X7_sayAll) z79.1 z79.2 y1 124 _ _ _ h hP hD hS (lv_sub hl [0, 1] rfl)
  · have h := o_t c90 h
    refine lv_bipush (v := 38) hx hb dX7_sayAll_93 (by decide) ?_
    refine lv_goto (tgt := 100) hx hb dX7_sayAll_95 (by decide) ?_
    exact w_X7_sayAll_100 CX hK hsz (ih_X7_sayAll := ih_X7_sayAll) z79.1 z79.2 y1 38 _ _ _ h hP hD hS (lv_sub hl [0, 1] rfl)
set_option maxHeartbeats 4000000 in
set_option maxRecDepth 100000 in
theorem w_X7_sayAll_140 (CX : Cx p m c cX7_sayAll 2 s args x0 RX7 meth none) (hK : va_K D vwCl (ty0 cI cJ cB) s) (hsz : s.heap.size = sz) (ih_X7_sayAll : CP_X7_sayAll l D cI cJ cB (rmg_sayAll d) R_X7_sayAll) : ∀ (outSize : Int32) (out : Nat → Int32) (y1 : Int32) (s1 : Int32) (H : Heap) (locs : List Loc) (ls : Array Slot), f_X7_sayAll_140 R_X7_sayAll N outSize kind left_ right_ rows out y1 s1 = some z → va_P D vwCl (ws_X7_sayAll cI cJ cB a0 a_many a_bits a_table a_roots a_moved a_text a_above a_below a_row a_sum a_point a_pointRows a_pointSorts a_kind a_left a_right a_rows a_out thrown used rooted size outSize points takenOut great at_ fault open_ wrong by_ sort variable_ pointCount kind left_ right_ rows out) H → va_D (va_A ws0 sz) (ws_X7_sayAll cI cJ cB a0 a_many a_bits a_table a_roots a_moved a_text a_above a_below a_row a_sum a_point a_pointRows a_pointSorts a_kind a_left a_right a_rows a_out thrown used rooted size outSize points takenOut great at_ fault open_ wrong by_ sort variable_ pointCount kind left_ right_ rows out) → va_S (va_A ws0 sz) s.heap H locs → lv_has ls 2 [(0, .ref a0), (1, .int y1)] → W p l e (rmg_sayAll (d + 1)) s m args below meth c H locs 0 0 (MQ below (gQ D sz ws0 (ws_X7_sayAll cI cJ cB a0 a_many a_bits a_table a_roots a_moved a_text a_above a_below a_row a_sum a_point a_pointRows a_pointSorts a_kind a_left a_right a_rows a_out thrown used rooted size z.1 points takenOut great at_ fault open_ wrong by_ sort variable_ pointCount kind left_ right_ rows z.2) none) args s 0 0 (va_A ws0 sz)) (F0 m 140 ls [.int s1, .ref a0]) := by
  obtain ⟨F, hr, hlk, hNw⟩ := id CX
  have hx := F.1
  have hb := F.2.1
  have hown := F.2.2.2.1
  have hA : ∀ q, s.heap.size ≤ q → va_A ws0 sz q := fun q hq => Or.inr (hsz ▸ hq)
  intro outSize out y1 s1 H locs ls h hP hD hS hl
  unfold f_X7_sayAll_140 at h
  obtain ⟨z140, hz140, h⟩ := o_b h
  refine k_v (wn := (ws_X7_sayAll cI cJ cB a0 a_many a_bits a_table a_roots a_moved a_text a_above a_below a_row a_sum a_point a_pointRows a_pointSorts a_kind a_left a_right a_rows a_out thrown used rooted size z140.1 points takenOut great at_ fault open_ wrong by_ sort variable_ pointCount kind left_ right_ rows z140.2)) (As := [.int s1]) (rest := []) F hNw hK hP hD hS hA (c_X7_say l D cI cJ cB a0 a_kind a_left a_right a_many a_bits a_rows a_table a_roots a_moved a_text a_above a_below a_row a_sum a_point a_pointRows a_pointSorts a_out _ thrown used rooted size outSize points takenOut great at_ fault open_ wrong by_ sort variable_ pointCount out s1 N hz140) wm_1367 cv_X7_say [0, 5] [1, 2, 3, 4] [4, 0, 1, 2, 3, 5] (⟨rfl, rfl, rfl, by decide, rfl⟩ : Ix [0, 5] [1, 2, 3, 4] [4, 0, 1, 2, 3, 5] 6) rfl (hN_of 4 6 (by decide +kernel) rfl (by decide +kernel) rfl) rfl rfl rfl rfl ⟨rfl, rfl, by show 0 + 1 ≤ 3 + (d + 1); omega, by show 8 + (2 + 11) + 0 ≤ 68 + 21 * (d + 1); omega⟩ hl.1 rfl (Nat.le_of_ble_eq_true rfl) ⟨Nat.zero_le _, Nat.zero_le _⟩ dX7_sayAll_140 (fun H locs hP hD hS => ?_)
  refine lv_aload_n hx hb dX7_sayAll_143 rfl (lv_at hl 0 rfl) ?_
  refine lv_bipush (v := 97) hx hb dX7_sayAll_144 (by decide) ?_
  refine lv_aload_n hx hb dX7_sayAll_146 rfl (lv_at hl 0 rfl) ?_
  refine r_get F hK hP 0 2 rfl inW_X7 wm_1094 rfl (by decide) rfl dX7_sayAll_147 ?_
  refine lv_iload_n hx hb dX7_sayAll_150 rfl (lv_at hl 1 rfl) ?_
  obtain ⟨hi151, h⟩ := o_ix h
  refine va_iald hx hb hK hP 2 0 rfl rfl hi151 dX7_sayAll_151 ?_
  refine lv_iadd hx hb dX7_sayAll_152 ?_
  obtain ⟨z153, hz153, h⟩ := o_b h
  refine k_v (wn := (ws_X7_sayAll cI cJ cB a0 a_many a_bits a_table a_roots a_moved a_text a_above a_below a_row a_sum a_point a_pointRows a_pointSorts a_kind a_left a_right a_rows a_out thrown used rooted size z153.1 points takenOut great at_ fault open_ wrong by_ sort variable_ pointCount kind left_ right_ rows z153.2)) (As := [.int (97 + (left_ y1.toNatClampNeg))]) (rest := []) F hNw hK hP hD hS hA (c_X7_say l D cI cJ cB a0 a_kind a_left a_right a_many a_bits a_rows a_table a_roots a_moved a_text a_above a_below a_row a_sum a_point a_pointRows a_pointSorts a_out _ thrown used rooted size z140.1 points takenOut great at_ fault open_ wrong by_ sort variable_ pointCount z140.2 (97 + (left_ y1.toNatClampNeg)) N hz153) wm_1367 cv_X7_say [0, 5] [1, 2, 3, 4] [4, 0, 1, 2, 3, 5] (⟨rfl, rfl, rfl, by decide, rfl⟩ : Ix [0, 5] [1, 2, 3, 4] [4, 0, 1, 2, 3, 5] 6) rfl (hN_of 4 6 (by decide +kernel) rfl (by decide +kernel) rfl) rfl rfl rfl rfl ⟨rfl, rfl, by show 0 + 1 ≤ 3 + (d + 1); omega, by show 8 + (2 + 11) + 0 ≤ 68 + 21 * (d + 1); omega⟩ hl.1 rfl (Nat.le_of_ble_eq_true rfl) ⟨Nat.zero_le _, Nat.zero_le _⟩ dX7_sayAll_153 (fun H locs hP hD hS => ?_)
  refine lv_aload_n hx hb dX7_sayAll_156 rfl (lv_at hl 0 rfl) ?_
  refine lv_bipush (v := 46) hx hb dX7_sayAll_157 (by decide) ?_
  obtain ⟨z159, hz159, h⟩ := o_b h
  refine k_v (wn := (ws_X7_sayAll cI cJ cB a0 a_many a_bits a_table a_roots a_moved a_text a_above a_below a_row a_sum a_point a_pointRows a_pointSorts a_kind a_left a_right a_rows a_out thrown used rooted size z159.1 points takenOut great at_ fault open_ wrong by_ sort variable_ pointCount kind left_ right_ rows z159.2)) (As := [.int 46]) (rest := []) F hNw hK hP hD hS hA (c_X7_say l D cI cJ cB a0 a_kind a_left a_right a_many a_bits a_rows a_table a_roots a_moved a_text a_above a_below a_row a_sum a_point a_pointRows a_pointSorts a_out _ thrown used rooted size z153.1 points takenOut great at_ fault open_ wrong by_ sort variable_ pointCount z153.2 46 N hz159) wm_1367 cv_X7_say [0, 5] [1, 2, 3, 4] [4, 0, 1, 2, 3, 5] (⟨rfl, rfl, rfl, by decide, rfl⟩ : Ix [0, 5] [1, 2, 3, 4] [4, 0, 1, 2, 3, 5] 6) rfl (hN_of 4 6 (by decide +kernel) rfl (by decide +kernel) rfl) rfl rfl rfl rfl ⟨rfl, rfl, by show 0 + 1 ≤ 3 + (d + 1); omega, by show 8 + (2 + 11) + 0 ≤ 68 + 21 * (d + 1); omega⟩ hl.1 rfl (Nat.le_of_ble_eq_true rfl) ⟨Nat.zero_le _, Nat.zero_le _⟩ dX7_sayAll_159 (fun H locs hP hD hS => ?_)
  refine lv_aload_n hx hb dX7_sayAll_162 rfl (lv_at hl 0 rfl) ?_
  refine lv_aload_n hx hb dX7_sayAll_163 rfl (lv_at hl 0 rfl) ?_
  refine r_get F hK hP 0 3 rfl inW_X7 wm_1095 rfl (by decide) rfl dX7_sayAll_164 ?_
  refine lv_iload_n hx hb dX7_sayAll_167 rfl (lv_at hl 1 rfl) ?_
  obtain ⟨hi168, h⟩ := o_ix h
  refine va_iald hx hb hK hP 3 0 rfl rfl hi168 dX7_sayAll_168 ?_
  obtain ⟨z169, hz169, h⟩ := o_b h
  refine k_v (wn := (ws_X7_sayAll cI cJ cB a0 a_many a_bits a_table a_roots a_moved a_text a_above a_below a_row a_sum a_point a_pointRows a_pointSorts a_kind a_left a_right a_rows a_out thrown used rooted size z169.1 points takenOut great at_ fault open_ wrong by_ sort variable_ pointCount kind left_ right_ rows z169.2)) (As := [.int (right_ y1.toNatClampNeg)]) (rest := []) F hNw hK hP hD hS hA (ih_X7_sayAll a0 a_many a_bits a_table a_roots a_moved a_text a_above a_below a_row a_sum a_point a_pointRows a_pointSorts a_kind a_left a_right a_rows a_out _ thrown used rooted size z159.1 points takenOut great at_ fault open_ wrong by_ sort variable_ pointCount kind left_ right_ rows z159.2 (right_ y1.toNatClampNeg) hz169) wm_1363 cv_X7_sayAll [0, 1, 2, 3, 4, 5] [] [0, 1, 2, 3, 4, 5] (⟨rfl, rfl, rfl, by decide, rfl⟩ : Ix [0, 1, 2, 3, 4, 5] [] [0, 1, 2, 3, 4, 5] 6) rfl (hN_of 0 6 (by decide +kernel) rfl (by decide +kernel) rfl) rfl rfl rfl rfl ⟨rfl, rfl, by show 3 + d + 1 ≤ 3 + (d + 1); omega, by show 8 + (2 + 11) + (68 + 21 * d) ≤ 68 + 21 * (d + 1); omega⟩ hl.1 rfl (Nat.le_of_ble_eq_true rfl) ⟨Nat.zero_le _, Nat.zero_le _⟩ dX7_sayAll_169 (fun H locs hP hD hS => ?_)
  exact w_X7_sayAll_172 CX hK hsz (ih_X7_sayAll := ih_X7_sayAll) z169.1 z169.2 _ _ _ h hP hD hS (lv_sub hl [] rfl)
end G_X7_sayAll
set_option maxHeartbeats 4000000 in
set_option maxRecDepth 100000 in
theorem cF_X7_sayAll (l : Launch) (D : va_G) (cI cJ cB : ClassId) (N d : Nat) {R_X7_sayAll : Int32 → (Nat → Int32) → (Nat → Int32) → (Nat → Int32) → (Nat → Int32) → (Nat → Int32) → Int32 → Option ((Int32) × (Nat → Int32))} (ih_X7_sayAll : CP_X7_sayAll l D cI cJ cB (rmg_sayAll d) R_X7_sayAll) : CP_X7_sayAll l D cI cJ cB (rmg_sayAll (d + 1)) (F_X7_sayAll R_X7_sayAll N) := by
  intro a0 a_many a_bits a_table a_roots a_moved a_text a_above a_below a_row a_sum a_point a_pointRows a_pointSorts a_kind a_left a_right a_rows a_out sz thrown used rooted size outSize points takenOut great at_ fault open_ wrong by_ sort variable_ pointCount kind left_ right_ rows out x1 z h
  refine Mg.of (by decide) (Nat.le_of_ble_eq_true rfl) ?_
  intro p e s m below meth c CX hK hsz hP hD ls hl
  have CX : Cx p m c cX7_sayAll 2 s ([.ref a0, .int x1] : List Value).toArray (Cond.code yX7_sayAll cX7_sayAll 2 none) RX7 meth none := CX
  obtain ⟨F, hr, hlk, hNw⟩ := id CX
  have hx := F.1
  have hb := F.2.1
  have hown := F.2.2.2.1
  have hl : lv_has ls 2 [(0, .ref a0), (1, .int x1)] := hl
  have hS : va_S (va_A (ws_X7_sayAll cI cJ cB a0 a_many a_bits a_table a_roots a_moved a_text a_above a_below a_row a_sum a_point a_pointRows a_pointSorts a_kind a_left a_right a_rows a_out thrown used rooted size outSize points takenOut great at_ fault open_ wrong by_ sort variable_ pointCount kind left_ right_ rows out) sz) s.heap s.heap [] := va_S.rf
  have hA : ∀ q, s.heap.size ≤ q → va_A (ws_X7_sayAll cI cJ cB a0 a_many a_bits a_table a_roots a_moved a_text a_above a_below a_row a_sum a_point a_pointRows a_pointSorts a_kind a_left a_right a_rows a_out thrown used rooted size outSize points takenOut great at_ fault open_ wrong by_ sort variable_ pointCount kind left_ right_ rows out) sz q := fun q hq => Or.inr (hsz ▸ hq)
  unfold F_X7_sayAll at h
  refine lv_aload_n hx hb dX7_sayAll_0 rfl (lv_at hl 0 rfl) ?_
  refine r_get F hK hP 0 1 rfl inW_X7 wm_1093 rfl (by decide) rfl dX7_sayAll_1 ?_
  refine lv_iload_n hx hb dX7_sayAll_4 rfl (lv_at hl 1 rfl) ?_
  obtain ⟨hi5, h⟩ := o_ix h
  refine va_iald hx hb hK hP 1 0 rfl rfl hi5 dX7_sayAll_5 ?_
  by_cases o6 : (kind x1.toNatClampNeg).toInt < 0 ∨ 4 < (kind x1.toNatClampNeg).toInt
  · have h := o_t o6 h
    refine lv_tableOut (tgt := 122) hx hb dX7_sayAll_6 o6 (by decide) ?_
    refine lv_aload_n hx hb dX7_sayAll_122 rfl (lv_at hl 0 rfl) ?_
    refine lv_aload_n hx hb dX7_sayAll_123 rfl (lv_at hl 0 rfl) ?_
    refine r_get F hK hP 0 1 rfl inW_X7 wm_1093 rfl (by decide) rfl dX7_sayAll_124 ?_
    refine lv_iload_n hx hb dX7_sayAll_127 rfl (lv_at hl 1 rfl) ?_
    obtain ⟨hi128, h⟩ := o_ix h
    refine va_iald hx hb hK hP 1 0 rfl rfl hi128 dX7_sayAll_128 ?_
    refine lv_iconst (v := 5) hx hb dX7_sayAll_129 (by decide) ?_
    refine lv_icmp_ne (tgt := 138) hx hb dX7_sayAll_130 (by decide) (fun c130 => ?_) (fun c130 => ?_)
    · have h := o_f c130 h
      refine lv_bipush (v := 65) hx hb dX7_sayAll_138 (by decide) ?_
      exact w_X7_sayAll_140 CX hK hsz (ih_X7_sayAll := ih_X7_sayAll) outSize out x1 65 _ _ _ h hP hD hS (lv_sub hl [0, 1] rfl)
    · have h := o_t c130 h
      refine lv_bipush (v := 69) hx hb dX7_sayAll_133 (by decide) ?_
      refine lv_goto (tgt := 140) hx hb dX7_sayAll_135 (by decide) ?_
      exact w_X7_sayAll_140 CX hK hsz (ih_X7_sayAll := ih_X7_sayAll) outSize out x1 69 _ _ _ h hP hD hS (lv_sub hl [0, 1] rfl)
  · have h := o_f o6 h
    by_cases e6_0 : (kind x1.toNatClampNeg) = 0
    · have h := o_t e6_0 h
      refine lv_tableIn (off := 34) (tgt := 40) hx hb dX7_sayAll_6 (by rw [e6_0]; decide) (by rw [e6_0]; decide) (by rw [e6_0]; rfl) (by decide) ?_
      refine lv_aload_n hx hb dX7_sayAll_40 rfl (lv_at hl 0 rfl) ?_
      refine lv_bipush (v := 84) hx hb dX7_sayAll_41 (by decide) ?_
      obtain ⟨z43, hz43, h⟩ := o_b h
      refine k_v (wn := (ws_X7_sayAll cI cJ cB a0 a_many a_bits a_table a_roots a_moved a_text a_above a_below a_row a_sum a_point a_pointRows a_pointSorts a_kind a_left a_right a_rows a_out thrown used rooted size z43.1 points takenOut great at_ fault open_ wrong by_ sort variable_ pointCount kind left_ right_ rows z43.2)) (As := [.int 84]) (rest := []) F hNw hK hP hD hS hA (c_X7_say l D cI cJ cB a0 a_kind a_left a_right a_many a_bits a_rows a_table a_roots a_moved a_text a_above a_below a_row a_sum a_point a_pointRows a_pointSorts a_out _ thrown used rooted size outSize points takenOut great at_ fault open_ wrong by_ sort variable_ pointCount out 84 N hz43) wm_1367 cv_X7_say [0, 5] [1, 2, 3, 4] [4, 0, 1, 2, 3, 5] (⟨rfl, rfl, rfl, by decide, rfl⟩ : Ix [0, 5] [1, 2, 3, 4] [4, 0, 1, 2, 3, 5] 6) rfl (hN_of 4 6 (by decide +kernel) rfl (by decide +kernel) rfl) rfl rfl rfl rfl ⟨rfl, rfl, by show 0 + 1 ≤ 3 + (d + 1); omega, by show 8 + (2 + 11) + 0 ≤ 68 + 21 * (d + 1); omega⟩ hl.1 rfl (Nat.le_of_ble_eq_true rfl) ⟨Nat.zero_le _, Nat.zero_le _⟩ dX7_sayAll_43 (fun H locs hP hD hS => ?_)
      refine lv_goto (tgt := 172) hx hb dX7_sayAll_46 (by decide) ?_
      exact w_X7_sayAll_172 CX hK hsz (ih_X7_sayAll := ih_X7_sayAll) z43.1 z43.2 _ _ _ h hP hD hS (lv_sub hl [] rfl)
    · have h := o_f e6_0 h
      by_cases e6_1 : (kind x1.toNatClampNeg) = 1
      · have h := o_t e6_1 h
        refine lv_tableIn (off := 43) (tgt := 49) hx hb dX7_sayAll_6 (by rw [e6_1]; decide) (by rw [e6_1]; decide) (by rw [e6_1]; rfl) (by decide) ?_
        refine lv_aload_n hx hb dX7_sayAll_49 rfl (lv_at hl 0 rfl) ?_
        refine lv_bipush (v := 70) hx hb dX7_sayAll_50 (by decide) ?_
        obtain ⟨z52, hz52, h⟩ := o_b h
        refine k_v (wn := (ws_X7_sayAll cI cJ cB a0 a_many a_bits a_table a_roots a_moved a_text a_above a_below a_row a_sum a_point a_pointRows a_pointSorts a_kind a_left a_right a_rows a_out thrown used rooted size z52.1 points takenOut great at_ fault open_ wrong by_ sort variable_ pointCount kind left_ right_ rows z52.2)) (As := [.int 70]) (rest := []) F hNw hK hP hD hS hA (c_X7_say l D cI cJ cB a0 a_kind a_left a_right a_many a_bits a_rows a_table a_roots a_moved a_text a_above a_below a_row a_sum a_point a_pointRows a_pointSorts a_out _ thrown used rooted size outSize points takenOut great at_ fault open_ wrong by_ sort variable_ pointCount out 70 N hz52) wm_1367 cv_X7_say [0, 5] [1, 2, 3, 4] [4, 0, 1, 2, 3, 5] (⟨rfl, rfl, rfl, by decide, rfl⟩ : Ix [0, 5] [1, 2, 3, 4] [4, 0, 1, 2, 3, 5] 6) rfl (hN_of 4 6 (by decide +kernel) rfl (by decide +kernel) rfl) rfl rfl rfl rfl ⟨rfl, rfl, by show 0 + 1 ≤ 3 + (d + 1); omega, by show 8 + (2 + 11) + 0 ≤ 68 + 21 * (d + 1); omega⟩ hl.1 rfl (Nat.le_of_ble_eq_true rfl) ⟨Nat.zero_le _, Nat.zero_le _⟩ dX7_sayAll_52 (fun H locs hP hD hS => ?_)
        refine lv_goto (tgt := 172) hx hb dX7_sayAll_55 (by decide) ?_
        exact w_X7_sayAll_172 CX hK hsz (ih_X7_sayAll := ih_X7_sayAll) z52.1 z52.2 _ _ _ h hP hD hS (lv_sub hl [] rfl)
      · have h := o_f e6_1 h
        by_cases e6_2 : (kind x1.toNatClampNeg) = 2
        · have h := o_t e6_2 h
          refine lv_tableIn (off := 52) (tgt := 58) hx hb dX7_sayAll_6 (by rw [e6_2]; decide) (by rw [e6_2]; decide) (by rw [e6_2]; rfl) (by decide) ?_
          refine lv_aload_n hx hb dX7_sayAll_58 rfl (lv_at hl 0 rfl) ?_
          refine lv_iload_n hx hb dX7_sayAll_59 rfl (lv_at hl 1 rfl) ?_
          obtain ⟨z60, hz60, h⟩ := o_b h
          refine k_v (wn := (ws_X7_sayAll cI cJ cB a0 a_many a_bits a_table a_roots a_moved a_text a_above a_below a_row a_sum a_point a_pointRows a_pointSorts a_kind a_left a_right a_rows a_out thrown used rooted size z60.1 points takenOut great at_ fault open_ wrong by_ sort variable_ pointCount kind left_ right_ rows z60.2)) (As := [.int x1]) (rest := []) F hNw hK hP hD hS hA (c_X7_sayAtom l D cI cJ cB a0 a_kind a_right a_many a_bits a_table a_roots a_moved a_text a_above a_below a_row a_sum a_point a_pointRows a_pointSorts a_left a_rows a_out _ thrown used rooted size outSize points takenOut great at_ fault open_ wrong by_ sort variable_ pointCount left_ rows out x1 N hz60) wm_1371 cv_X7_sayAtom [0, 2, 4, 5] [1, 3] [2, 0, 3, 1, 4, 5] (⟨rfl, rfl, rfl, by decide, rfl⟩ : Ix [0, 2, 4, 5] [1, 3] [2, 0, 3, 1, 4, 5] 6) rfl (hN_of 2 6 (by decide +kernel) rfl (by decide +kernel) rfl) rfl rfl rfl rfl ⟨rfl, rfl, by show 2 + 1 ≤ 3 + (d + 1); omega, by show 8 + (6 + 11) + 43 ≤ 68 + 21 * (d + 1); omega⟩ hl.1 rfl (Nat.le_of_ble_eq_true rfl) ⟨Nat.zero_le _, Nat.zero_le _⟩ dX7_sayAll_60 (fun H locs hP hD hS => ?_)
          refine lv_goto (tgt := 172) hx hb dX7_sayAll_63 (by decide) ?_
          exact w_X7_sayAll_172 CX hK hsz (ih_X7_sayAll := ih_X7_sayAll) z60.1 z60.2 _ _ _ h hP hD hS (lv_sub hl [] rfl)
        · have h := o_f e6_2 h
          by_cases e6_3 : (kind x1.toNatClampNeg) = 3
          · have h := o_t e6_3 h
            refine lv_tableIn (off := 60) (tgt := 66) hx hb dX7_sayAll_6 (by rw [e6_3]; decide) (by rw [e6_3]; decide) (by rw [e6_3]; rfl) (by decide) ?_
            exact w_X7_sayAll_66 CX hK hsz (ih_X7_sayAll := ih_X7_sayAll) outSize out x1 _ _ _ h hP hD hS (lv_sub hl [0, 1] rfl)
          · have h := o_f e6_3 h
            by_cases e6_4 : (kind x1.toNatClampNeg) = 4
            · have h := o_t e6_4 h
              refine lv_tableIn (off := 60) (tgt := 66) hx hb dX7_sayAll_6 (by rw [e6_4]; decide) (by rw [e6_4]; decide) (by rw [e6_4]; rfl) (by decide) ?_
              exact w_X7_sayAll_66 CX hK hsz (ih_X7_sayAll := ih_X7_sayAll) outSize out x1 _ _ _ h hP hD hS (lv_sub hl [0, 1] rfl)
            · have h := o_f e6_4 h
              cases h
def fg_sayAll (N : Nat) : Nat → (Int32 → (Nat → Int32) → (Nat → Int32) → (Nat → Int32) → (Nat → Int32) → (Nat → Int32) → Int32 → Option ((Int32) × (Nat → Int32)))
  | 0 => fun _ _ _ _ _ _ _ => none
  | d + 1 => F_X7_sayAll (fg_sayAll N d) N
theorem cg_sayAll (l : Launch) (D : va_G) (cI cJ cB : ClassId) (N : Nat) : ∀ d : Nat, CP_X7_sayAll l D cI cJ cB (rmg_sayAll d) (fg_sayAll N d) := by
  intro d
  induction d with
  | zero =>
    exact (by intro a0 a_many a_bits a_table a_roots a_moved a_text a_above a_below a_row a_sum a_point a_pointRows a_pointSorts a_kind a_left a_right a_rows a_out sz thrown used rooted size outSize points takenOut great at_ fault open_ wrong by_ sort variable_ pointCount kind left_ right_ rows out x1 z h; cases h)
  | succ d ih =>
    exact cF_X7_sayAll l D cI cJ cB N d ih
def f_X7_sayAll (N : Nat) (outSize : Int32) (kind : Nat → Int32) (left_ : Nat → Int32) (right_ : Nat → Int32) (rows : Nat → Int32) (out : Nat → Int32) (x1 : Int32) : Option ((Int32) × (Nat → Int32)) := (fg_sayAll N 450) outSize kind left_ right_ rows out x1
abbrev rm_X7_sayAll : Room := { frames := 453, cells := 0, slots := 0, locals := 9518 }
theorem c_X7_sayAll (l : Launch) (D : va_G) (cI cJ cB : ClassId) (a0 a_many a_bits a_table a_roots a_moved a_text a_above a_below a_row a_sum a_point a_pointRows a_pointSorts a_kind a_left a_right a_rows a_out : Nat) (sz : Nat) (thrown : Int32) (used : Int32) (rooted : Int32) (size : Int32) (outSize : Int32) (points : Int32) (takenOut : Int32) (great : Int32) (at_ : Int32) (fault : Int32) (open_ : Int32) (wrong : Int32) (by_ : Int64) (sort : Int32) (variable_ : Int32) (pointCount : Int32) (kind : Nat → Int32) (left_ : Nat → Int32) (right_ : Nat → Int32) (rows : Nat → Int32) (out : Nat → Int32) (x1 : Int32) (N : Nat) {z : (Int32) × (Nat → Int32)} (h : f_X7_sayAll N outSize kind left_ right_ rows out x1 = some z) : Mg l yX7_sayAll cX7_sayAll 2 none rm_X7_sayAll D (ty0 cI cJ cB) [.ref a0, .int x1] sz (ws_X7_sayAll cI cJ cB a0 a_many a_bits a_table a_roots a_moved a_text a_above a_below a_row a_sum a_point a_pointRows a_pointSorts a_kind a_left a_right a_rows a_out thrown used rooted size outSize points takenOut great at_ fault open_ wrong by_ sort variable_ pointCount kind left_ right_ rows out) none (ws_X7_sayAll cI cJ cB a0 a_many a_bits a_table a_roots a_moved a_text a_above a_below a_row a_sum a_point a_pointRows a_pointSorts a_kind a_left a_right a_rows a_out thrown used rooted size z.1 points takenOut great at_ fault open_ wrong by_ sort variable_ pointCount kind left_ right_ rows z.2) :=
  (cg_sayAll l D cI cJ cB N 450) a0 a_many a_bits a_table a_roots a_moved a_text a_above a_below a_row a_sum a_point a_pointRows a_pointSorts a_kind a_left a_right a_rows a_out sz thrown used rooted size outSize points takenOut great at_ fault open_ wrong by_ sort variable_ pointCount kind left_ right_ rows out x1 h
section G_X7_side
abbrev ws_X7_side (cI cJ cB : ClassId) (a0 a_kind a_left a_right a_many a_bits a_rows a_table a_roots a_moved a_out a_above a_below a_row a_point a_pointRows a_pointSorts a_text a_sum : Nat) (thrown : Int32) (used : Int32) (rooted : Int32) (size : Int32) (outSize : Int32) (points : Int32) (takenOut : Int32) (great : Int32) (at_ : Int32) (fault : Int32) (open_ : Int32) (wrong : Int32) (by_ : Int64) (sort : Int32) (variable_ : Int32) (pointCount : Int32) (text : Nat → Int32) (sum_ : Nat → Int64) : va_W := [(a0, .inr (9, [.int thrown, .ref a_kind, .ref a_left, .ref a_right, .ref a_many, .ref a_bits, .ref a_rows, .ref a_table, .int used, .ref a_roots, .int rooted, .ref a_moved, .ref a_text, .int size, .ref a_out, .int outSize, .ref a_above, .ref a_below, .int points, .int takenOut, .int great, .ref a_row, .int at_, .int fault, .int open_, .int wrong, .ref a_sum, .ref a_point, .long by_, .int sort, .int variable_, .ref a_pointRows, .ref a_pointSorts, .int pointCount])), (a_text, .inl (cB, 240, .inl text)), (a_sum, .inl (cJ, 9, .inr (.inl sum_)))]
abbrev rm_X7_side : Room := { frames := 3, cells := 0, slots := 0, locals := 70 }
def f_X7_side_154 (K58 : Int32 → Int32 → Int32 → Int32 → (Nat → Int32) → (Nat → Int64) → Int64 → Int32 → Option ((Int32) × (Int32) × (Int32) × (Nat → Int64))) (N : Nat) (size : Int32) (at_ : Int32) (fault : Int32) (wrong : Int32) (text : Nat → Int32) (sum_ : Nat → Int64) (y1 : Int64) (y3 : Int32) (s1 : Int64) : Option ((Int32) × (Int32) × (Int32) × (Nat → Int64)) := (f_X7_item N size at_ fault wrong text sum_ s1).bind (fun z154 => (f_X7_blanks N size z154.1 text).bind (fun z158 => K58 size z158 z154.2.1 z154.2.2.1 text z154.2.2.2 y1 y3))
def f_X7_side_130 (K58 : Int32 → Int32 → Int32 → Int32 → (Nat → Int32) → (Nat → Int64) → Int64 → Int32 → Option ((Int32) × (Int32) × (Int32) × (Nat → Int64))) (N : Nat) (size : Int32) (at_ : Int32) (fault : Int32) (wrong : Int32) (text : Nat → Int32) (sum_ : Nat → Int64) (y1 : Int64) (y3 : Int32) (s0 : Int32) : Option ((Int32) × (Int32) × (Int32) × (Nat → Int64)) := ifb (s0 = 0) (f_X7_side_154 K58 N size (at_ + 1) fault wrong text sum_ y1 y3 y1) (f_X7_side_154 K58 N size (at_ + 1) fault wrong text sum_ y1 y3 (-y1))
def f_X7_side_116 (K58 : Int32 → Int32 → Int32 → Int32 → (Nat → Int32) → (Nat → Int64) → Int64 → Int32 → Option ((Int32) × (Int32) × (Int32) × (Nat → Int64))) (N : Nat) (size : Int32) (at_ : Int32) (fault : Int32) (wrong : Int32) (text : Nat → Int32) (sum_ : Nat → Int64) (y1 : Int64) (y3 : Int32) : Option ((Int32) × (Int32) × (Int32) × (Nat → Int64)) := (f_X7_peek N size at_ text).bind (fun z117 => ifb (z117 = 45) (f_X7_side_130 K58 N size at_ fault wrong text sum_ y1 y3 1) (f_X7_side_130 K58 N size at_ fault wrong text sum_ y1 y3 0))
def f_X7_side_164 (N : Nat) (size : Int32) (at_ : Int32) (fault : Int32) (wrong : Int32) (text : Nat → Int32) (sum_ : Nat → Int64) : Option ((Int32) × (Int32) × (Int32) × (Nat → Int64)) := some (at_, fault, wrong, sum_)
def f_X7_side_58 (N : Nat) : Nat → Int32 → Int32 → Int32 → Int32 → (Nat → Int32) → (Nat → Int64) → Int64 → Int32 → Option ((Int32) × (Int32) × (Int32) × (Nat → Int64))
  | 0 => fun _ _ _ _ _ _ _ _ => none
  | n + 1 => fun size at_ fault wrong text sum_ y1 y3 => ifb (wrong = 0) ((f_X7_peek N size at_ text).bind (fun z66 => ifb (z66 = 43) (f_X7_side_116 (f_X7_side_58 N n) N size at_ fault wrong text sum_ y1 y3) ((f_X7_peek N size at_ text).bind (fun z75 => ifb (z75 = 45) (ifb (y3 = 0) (f_X7_side_116 (f_X7_side_58 N n) N size at_ fault wrong text sum_ y1 y3) (ifb (size ≤ (at_ + 1)) (f_X7_side_116 (f_X7_side_58 N n) N size at_ fault wrong text sum_ y1 y3) (ix (at_ + 1) 240 (ifb ((text (at_ + 1).toNatClampNeg) = 62) (f_X7_side_164 N size at_ fault wrong text sum_) (f_X7_side_116 (f_X7_side_58 N n) N size at_ fault wrong text sum_ y1 y3))))) (f_X7_side_164 N size at_ fault wrong text sum_))))) (f_X7_side_164 N size at_ fault wrong text sum_)
def f_X7_side_51 (N : Nat) (size : Int32) (at_ : Int32) (fault : Int32) (wrong : Int32) (text : Nat → Int32) (sum_ : Nat → Int64) (y1 : Int64) (y3 : Int32) (s1 : Int64) : Option ((Int32) × (Int32) × (Int32) × (Nat → Int64)) := (f_X7_item N size at_ fault wrong text sum_ s1).bind (fun z51 => (f_X7_blanks N size z51.1 text).bind (fun z55 => f_X7_side_58 N N size z55 z51.2.1 z51.2.2.1 text z51.2.2.2 y1 y3))
def f_X7_side_35 (N : Nat) (size : Int32) (at_ : Int32) (fault : Int32) (wrong : Int32) (text : Nat → Int32) (sum_ : Nat → Int64) (y1 : Int64) (y3 : Int32) (y4 : Int32) (s1 : Int32) (s2 : Int32) : Option ((Int32) × (Int32) × (Int32) × (Nat → Int64)) := ifb (y4 = 0) (f_X7_side_51 N size (s1 + s2) fault wrong text sum_ y1 y3 y1) (f_X7_side_51 N size (s1 + s2) fault wrong text sum_ y1 y3 (-y1))
def f_X7_side_18 (N : Nat) (size : Int32) (at_ : Int32) (fault : Int32) (wrong : Int32) (text : Nat → Int32) (sum_ : Nat → Int64) (y1 : Int64) (y3 : Int32) (s0 : Int32) : Option ((Int32) × (Int32) × (Int32) × (Nat → Int64)) := ifb (s0 = 0) (f_X7_side_35 N size at_ fault wrong text sum_ y1 y3 s0 at_ 0) (f_X7_side_35 N size at_ fault wrong text sum_ y1 y3 s0 at_ 1)
def f_X7_side (N : Nat) (size : Int32) (at_ : Int32) (fault : Int32) (wrong : Int32) (text : Nat → Int32) (sum_ : Nat → Int64) (x1 : Int64) (x2 : Int32) : Option ((Int32) × (Int32) × (Int32) × (Nat → Int64)) := (f_X7_blanks N size at_ text).bind (fun z1 => (f_X7_peek N size z1 text).bind (fun z5 => ifb (z5 = 45) (f_X7_side_18 N size z1 fault wrong text sum_ x1 x2 1) (f_X7_side_18 N size z1 fault wrong text sum_ x1 x2 0)))
variable {p : Program} {l : Launch} {e : Env} {s : State} {m : MethodId} {below : List Frame} {meth : Method} {c : Code} {args : Array Value} {x0 : Cond} {D : va_G} {cI cJ cB : ClassId} {sz N : Nat} {ws0 : va_W} {a0 a_kind a_left a_right a_many a_bits a_rows a_table a_roots a_moved a_out a_above a_below a_row a_point a_pointRows a_pointSorts a_text a_sum : Nat} {thrown : Int32} {used : Int32} {rooted : Int32} {size : Int32} {outSize : Int32} {points : Int32} {takenOut : Int32} {great : Int32} {open_ : Int32} {by_ : Int64} {sort : Int32} {variable_ : Int32} {pointCount : Int32} {text : Nat → Int32} {z : (Int32) × (Int32) × (Int32) × (Nat → Int64)}
set_option maxHeartbeats 4000000 in
set_option maxRecDepth 100000 in
theorem w_X7_side_154 (CX : Cx p m c cX7_side 5 s args x0 RX7 meth none) (hK : va_K D vwCl (ty0 cI cJ cB) s) (hsz : s.heap.size = sz) {K58 : Int32 → Int32 → Int32 → Int32 → (Nat → Int32) → (Nat → Int64) → Int64 → Int32 → Option ((Int32) × (Int32) × (Int32) × (Nat → Int64))} (hK58 : ∀ (at_ : Int32) (fault : Int32) (wrong : Int32) (sum_ : Nat → Int64) (y1 : Int64) (y3 : Int32) (H : Heap) (locs : List Loc) (ls : Array Slot), K58 size at_ fault wrong text sum_ y1 y3 = some z → va_P D vwCl (ws_X7_side cI cJ cB a0 a_kind a_left a_right a_many a_bits a_rows a_table a_roots a_moved a_out a_above a_below a_row a_point a_pointRows a_pointSorts a_text a_sum thrown used rooted size outSize points takenOut great at_ fault open_ wrong by_ sort variable_ pointCount text sum_) H → va_D (va_A ws0 sz) (ws_X7_side cI cJ cB a0 a_kind a_left a_right a_many a_bits a_rows a_table a_roots a_moved a_out a_above a_below a_row a_point a_pointRows a_pointSorts a_text a_sum thrown used rooted size outSize points takenOut great at_ fault open_ wrong by_ sort variable_ pointCount text sum_) → va_S (va_A ws0 sz) s.heap H locs → lv_has ls 5 [(0, .ref a0), (1, .long y1), (3, .int y3)] → W p l e rm_X7_side s m args below meth c H locs 0 0 (MQ below (gQ D sz ws0 (ws_X7_side cI cJ cB a0 a_kind a_left a_right a_many a_bits a_rows a_table a_roots a_moved a_out a_above a_below a_row a_point a_pointRows a_pointSorts a_text a_sum thrown used rooted size outSize points takenOut great z.1 z.2.1 open_ z.2.2.1 by_ sort variable_ pointCount text z.2.2.2) none) args s 0 0 (va_A ws0 sz)) (F0 m 58 ls [])) : ∀ (at_ : Int32) (fault : Int32) (wrong : Int32) (sum_ : Nat → Int64) (y1 : Int64) (y3 : Int32) (s1 : Int64) (H : Heap) (locs : List Loc) (ls : Array Slot), f_X7_side_154 K58 N size at_ fault wrong text sum_ y1 y3 s1 = some z → va_P D vwCl (ws_X7_side cI cJ cB a0 a_kind a_left a_right a_many a_bits a_rows a_table a_roots a_moved a_out a_above a_below a_row a_point a_pointRows a_pointSorts a_text a_sum thrown used rooted size outSize points takenOut great at_ fault open_ wrong by_ sort variable_ pointCount text sum_) H → va_D (va_A ws0 sz) (ws_X7_side cI cJ cB a0 a_kind a_left a_right a_many a_bits a_rows a_table a_roots a_moved a_out a_above a_below a_row a_point a_pointRows a_pointSorts a_text a_sum thrown used rooted size outSize points takenOut great at_ fault open_ wrong by_ sort variable_ pointCount text sum_) → va_S (va_A ws0 sz) s.heap H locs → lv_has ls 5 [(0, .ref a0), (1, .long y1), (3, .int y3)] → W p l e rm_X7_side s m args below meth c H locs 0 0 (MQ below (gQ D sz ws0 (ws_X7_side cI cJ cB a0 a_kind a_left a_right a_many a_bits a_rows a_table a_roots a_moved a_out a_above a_below a_row a_point a_pointRows a_pointSorts a_text a_sum thrown used rooted size outSize points takenOut great z.1 z.2.1 open_ z.2.2.1 by_ sort variable_ pointCount text z.2.2.2) none) args s 0 0 (va_A ws0 sz)) (F0 m 154 ls [.long s1, .ref a0]) := by
  obtain ⟨F, hr, hlk, hNw⟩ := id CX
  have hx := F.1
  have hb := F.2.1
  have hown := F.2.2.2.1
  have hA : ∀ q, s.heap.size ≤ q → va_A ws0 sz q := fun q hq => Or.inr (hsz ▸ hq)
  intro at_ fault wrong sum_ y1 y3 s1 H locs ls h hP hD hS hl
  unfold f_X7_side_154 at h
  obtain ⟨z154, hz154, h⟩ := o_b h
  refine k_v (wn := (ws_X7_side cI cJ cB a0 a_kind a_left a_right a_many a_bits a_rows a_table a_roots a_moved a_out a_above a_below a_row a_point a_pointRows a_pointSorts a_text a_sum thrown used rooted size outSize points takenOut great z154.1 z154.2.1 open_ z154.2.2.1 by_ sort variable_ pointCount text z154.2.2.2)) (As := [.long s1]) (rest := []) F hNw hK hP hD hS hA (c_X7_item l D cI cJ cB a0 a_kind a_left a_right a_many a_bits a_rows a_table a_roots a_moved a_out a_above a_below a_row a_point a_pointRows a_pointSorts a_text a_sum _ thrown used rooted size outSize points takenOut great at_ fault open_ wrong by_ sort variable_ pointCount text sum_ s1 N hz154) wm_1239 cv_X7_item [0, 1, 2] [] [0, 1, 2] (⟨rfl, rfl, rfl, by decide, rfl⟩ : Ix [0, 1, 2] [] [0, 1, 2] 3) rfl (hN_of 0 3 (by decide +kernel) rfl (by decide +kernel) rfl) rfl rfl rfl rfl ⟨rfl, rfl, by decide, by decide⟩ hl.1 rfl (Nat.le_of_ble_eq_true rfl) ⟨Nat.zero_le _, Nat.zero_le _⟩ dX7_side_154 (fun H locs hP hD hS => ?_)
  refine lv_aload_n hx hb dX7_side_157 rfl (lv_at hl 0 rfl) ?_
  obtain ⟨z158, hz158, h⟩ := o_b h
  refine k_v (wn := (ws_X7_side cI cJ cB a0 a_kind a_left a_right a_many a_bits a_rows a_table a_roots a_moved a_out a_above a_below a_row a_point a_pointRows a_pointSorts a_text a_sum thrown used rooted size outSize points takenOut great z158 z154.2.1 open_ z154.2.2.1 by_ sort variable_ pointCount text z154.2.2.2)) (As := []) (rest := []) F hNw hK hP hD hS hA (c_X7_blanks l D cI cJ cB a0 a_kind a_left a_right a_many a_bits a_rows a_table a_roots a_moved a_out a_above a_below a_row a_sum a_point a_pointRows a_pointSorts a_text _ thrown used rooted size outSize points takenOut great z154.1 z154.2.1 open_ z154.2.2.1 by_ sort variable_ pointCount text N hz158) wm_1219 cv_X7_blanks [0, 1] [2] [1, 2, 0] (⟨rfl, rfl, rfl, by decide, rfl⟩ : Ix [0, 1] [2] [1, 2, 0] 3) rfl (hN_of 1 3 (by decide +kernel) rfl (by decide +kernel) rfl) rfl rfl rfl rfl ⟨rfl, rfl, by decide, by decide⟩ hl.1 rfl (Nat.le_of_ble_eq_true rfl) ⟨Nat.zero_le _, Nat.zero_le _⟩ dX7_side_158 (fun H locs hP hD hS => ?_)
  refine lv_goto (tgt := 58) hx hb dX7_side_161 (by decide) ?_
  exact hK58 z158 z154.2.1 z154.2.2.1 z154.2.2.2 y1 y3 _ _ _ h hP hD hS (lv_sub hl [0, 1, 2] rfl)
set_option maxHeartbeats 4000000 in
set_option maxRecDepth 100000 in
theorem w_X7_side_130 (CX : Cx p m c cX7_side 5 s args x0 RX7 meth none) (hK : va_K D vwCl (ty0 cI cJ cB) s) (hsz : s.heap.size = sz) {K58 : Int32 → Int32 → Int32 → Int32 → (Nat → Int32) → (Nat → Int64) → Int64 → Int32 → Option ((Int32) × (Int32) × (Int32) × (Nat → Int64))} (hK58 : ∀ (at_ : Int32) (fault : Int32) (wrong : Int32) (sum_ : Nat → Int64) (y1 : Int64) (y3 : Int32) (H : Heap) (locs : List Loc) (ls : Array Slot), K58 size at_ fault wrong text sum_ y1 y3 = some z → va_P D vwCl (ws_X7_side cI cJ cB a0 a_kind a_left a_right a_many a_bits a_rows a_table a_roots a_moved a_out a_above a_below a_row a_point a_pointRows a_pointSorts a_text a_sum thrown used rooted size outSize points takenOut great at_ fault open_ wrong by_ sort variable_ pointCount text sum_) H → va_D (va_A ws0 sz) (ws_X7_side cI cJ cB a0 a_kind a_left a_right a_many a_bits a_rows a_table a_roots a_moved a_out a_above a_below a_row a_point a_pointRows a_pointSorts a_text a_sum thrown used rooted size outSize points takenOut great at_ fault open_ wrong by_ sort variable_ pointCount text sum_) → va_S (va_A ws0 sz) s.heap H locs → lv_has ls 5 [(0, .ref a0), (1, .long y1), (3, .int y3)] → W p l e rm_X7_side s m args below meth c H locs 0 0 (MQ below (gQ D sz ws0 (ws_X7_side cI cJ cB a0 a_kind a_left a_right a_many a_bits a_rows a_table a_roots a_moved a_out a_above a_below a_row a_point a_pointRows a_pointSorts a_text a_sum thrown used rooted size outSize points takenOut great z.1 z.2.1 open_ z.2.2.1 by_ sort variable_ pointCount text z.2.2.2) none) args s 0 0 (va_A ws0 sz)) (F0 m 58 ls [])) : ∀ (at_ : Int32) (fault : Int32) (wrong : Int32) (sum_ : Nat → Int64) (y1 : Int64) (y3 : Int32) (s0 : Int32) (H : Heap) (locs : List Loc) (ls : Array Slot), f_X7_side_130 K58 N size at_ fault wrong text sum_ y1 y3 s0 = some z → va_P D vwCl (ws_X7_side cI cJ cB a0 a_kind a_left a_right a_many a_bits a_rows a_table a_roots a_moved a_out a_above a_below a_row a_point a_pointRows a_pointSorts a_text a_sum thrown used rooted size outSize points takenOut great at_ fault open_ wrong by_ sort variable_ pointCount text sum_) H → va_D (va_A ws0 sz) (ws_X7_side cI cJ cB a0 a_kind a_left a_right a_many a_bits a_rows a_table a_roots a_moved a_out a_above a_below a_row a_point a_pointRows a_pointSorts a_text a_sum thrown used rooted size outSize points takenOut great at_ fault open_ wrong by_ sort variable_ pointCount text sum_) → va_S (va_A ws0 sz) s.heap H locs → lv_has ls 5 [(0, .ref a0), (1, .long y1), (3, .int y3)] → W p l e rm_X7_side s m args below meth c H locs 0 0 (MQ below (gQ D sz ws0 (ws_X7_side cI cJ cB a0 a_kind a_left a_right a_many a_bits a_rows a_table a_roots a_moved a_out a_above a_below a_row a_point a_pointRows a_pointSorts a_text a_sum thrown used rooted size outSize points takenOut great z.1 z.2.1 open_ z.2.2.1 by_ sort variable_ pointCount text z.2.2.2) none) args s 0 0 (va_A ws0 sz)) (F0 m 130 ls [.int s0]) := by
  obtain ⟨F, hr, hlk, hNw⟩ := id CX
  have hx := F.1
  have hb := F.2.1
  have hown := F.2.2.2.1
  have hA : ∀ q, s.heap.size ≤ q → va_A ws0 sz q := fun q hq => Or.inr (hsz ▸ hq)
  intro at_ fault wrong sum_ y1 y3 s0 H locs ls h hP hD hS hl
  unfold f_X7_side_130 at h
  refine lv_istore (lv' := [(4, .int s0), (0, .ref a0), (1, .long y1), (3, .int y3)]) hx hb dX7_side_130 hl (by decide) rfl (fun ls hl => ?_)
  refine lv_aload_n hx hb dX7_side_132 rfl (lv_at hl 1 rfl) ?_
  refine lv_dup hx hb dX7_side_133 rfl ?_
  refine r_get F hK hP 0 22 rfl inW_X7 wm_1114 rfl (by decide) rfl dX7_side_134 ?_
  refine lv_iconst (v := 1) hx hb dX7_side_137 (by decide) ?_
  refine lv_iadd hx hb dX7_side_138 ?_
  refine r_put (wn := (ws_X7_side cI cJ cB a0 a_kind a_left a_right a_many a_bits a_rows a_table a_roots a_moved a_out a_above a_below a_row a_point a_pointRows a_pointSorts a_text a_sum thrown used rooted size outSize points takenOut great (at_ + 1) fault open_ wrong by_ sort variable_ pointCount text sum_)) F hK hP hD hS 0 22 rfl inW_X7 wm_1114 tyX7_ok nmX7 rfl rfl (by decide) rfl rfl (Nat.le_of_ble_eq_true rfl) rfl dX7_side_139 (fun H locs hP hD hS => ?_)
  refine lv_aload_n hx hb dX7_side_142 rfl (lv_at hl 1 rfl) ?_
  refine lv_iload hx hb dX7_side_143 (lv_at hl 0 rfl) ?_
  refine lv_if_eq (tgt := 153) hx hb dX7_side_145 (by decide) (fun c145 => ?_) (fun c145 => ?_)
  · have h := o_t c145 h
    refine lv_lload_n hx hb dX7_side_153 rfl (lv_at hl 2 rfl) ?_
    exact w_X7_side_154 CX hK hsz (hK58 := hK58) (at_ + 1) fault wrong sum_ y1 y3 y1 _ _ _ h hP hD hS (lv_sub hl [1, 2, 3] rfl)
  · have h := o_f c145 h
    refine lv_lload_n hx hb dX7_side_148 rfl (lv_at hl 2 rfl) ?_
    refine lv_lneg hx hb dX7_side_149 ?_
    refine lv_goto (tgt := 154) hx hb dX7_side_150 (by decide) ?_
    exact w_X7_side_154 CX hK hsz (hK58 := hK58) (at_ + 1) fault wrong sum_ y1 y3 (-y1) _ _ _ h hP hD hS (lv_sub hl [1, 2, 3] rfl)
set_option maxHeartbeats 4000000 in
set_option maxRecDepth 100000 in
theorem w_X7_side_116 (CX : Cx p m c cX7_side 5 s args x0 RX7 meth none) (hK : va_K D vwCl (ty0 cI cJ cB) s) (hsz : s.heap.size = sz) {K58 : Int32 → Int32 → Int32 → Int32 → (Nat → Int32) → (Nat → Int64) → Int64 → Int32 → Option ((Int32) × (Int32) × (Int32) × (Nat → Int64))} (hK58 : ∀ (at_ : Int32) (fault : Int32) (wrong : Int32) (sum_ : Nat → Int64) (y1 : Int64) (y3 : Int32) (H : Heap) (locs : List Loc) (ls : Array Slot), K58 size at_ fault wrong text sum_ y1 y3 = some z → va_P D vwCl (ws_X7_side cI cJ cB a0 a_kind a_left a_right a_many a_bits a_rows a_table a_roots a_moved a_out a_above a_below a_row a_point a_pointRows a_pointSorts a_text a_sum thrown used rooted size outSize points takenOut great at_ fault open_ wrong by_ sort variable_ pointCount text sum_) H → va_D (va_A ws0 sz) (ws_X7_side cI cJ cB a0 a_kind a_left a_right a_many a_bits a_rows a_table a_roots a_moved a_out a_above a_below a_row a_point a_pointRows a_pointSorts a_text a_sum thrown used rooted size outSize points takenOut great at_ fault open_ wrong by_ sort variable_ pointCount text sum_) → va_S (va_A ws0 sz) s.heap H locs → lv_has ls 5 [(0, .ref a0), (1, .long y1), (3, .int y3)] → W p l e rm_X7_side s m args below meth c H locs 0 0 (MQ below (gQ D sz ws0 (ws_X7_side cI cJ cB a0 a_kind a_left a_right a_many a_bits a_rows a_table a_roots a_moved a_out a_above a_below a_row a_point a_pointRows a_pointSorts a_text a_sum thrown used rooted size outSize points takenOut great z.1 z.2.1 open_ z.2.2.1 by_ sort variable_ pointCount text z.2.2.2) none) args s 0 0 (va_A ws0 sz)) (F0 m 58 ls [])) : ∀ (at_ : Int32) (fault : Int32) (wrong : Int32) (sum_ : Nat → Int64) (y1 : Int64) (y3 : Int32) (H : Heap) (locs : List Loc) (ls : Array Slot), f_X7_side_116 K58 N size at_ fault wrong text sum_ y1 y3 = some z → va_P D vwCl (ws_X7_side cI cJ cB a0 a_kind a_left a_right a_many a_bits a_rows a_table a_roots a_moved a_out a_above a_below a_row a_point a_pointRows a_pointSorts a_text a_sum thrown used rooted size outSize points takenOut great at_ fault open_ wrong by_ sort variable_ pointCount text sum_) H → va_D (va_A ws0 sz) (ws_X7_side cI cJ cB a0 a_kind a_left a_right a_many a_bits a_rows a_table a_roots a_moved a_out a_above a_below a_row a_point a_pointRows a_pointSorts a_text a_sum thrown used rooted size outSize points takenOut great at_ fault open_ wrong by_ sort variable_ pointCount text sum_) → va_S (va_A ws0 sz) s.heap H locs → lv_has ls 5 [(0, .ref a0), (1, .long y1), (3, .int y3)] → W p l e rm_X7_side s m args below meth c H locs 0 0 (MQ below (gQ D sz ws0 (ws_X7_side cI cJ cB a0 a_kind a_left a_right a_many a_bits a_rows a_table a_roots a_moved a_out a_above a_below a_row a_point a_pointRows a_pointSorts a_text a_sum thrown used rooted size outSize points takenOut great z.1 z.2.1 open_ z.2.2.1 by_ sort variable_ pointCount text z.2.2.2) none) args s 0 0 (va_A ws0 sz)) (F0 m 116 ls []) := by
  obtain ⟨F, hr, hlk, hNw⟩ := id CX
  have hx := F.1
  have hb := F.2.1
  have hown := F.2.2.2.1
  have hA : ∀ q, s.heap.size ≤ q → va_A ws0 sz q := fun q hq => Or.inr (hsz ▸ hq)
  intro at_ fault wrong sum_ y1 y3 H locs ls h hP hD hS hl
  unfold f_X7_side_116 at h
  refine lv_aload_n hx hb dX7_side_116 rfl (lv_at hl 0 rfl) ?_
  obtain ⟨z117, hz117, h⟩ := o_b h
  refine k_v (wn := (ws_X7_side cI cJ cB a0 a_kind a_left a_right a_many a_bits a_rows a_table a_roots a_moved a_out a_above a_below a_row a_point a_pointRows a_pointSorts a_text a_sum thrown used rooted size outSize points takenOut great at_ fault open_ wrong by_ sort variable_ pointCount text sum_)) (As := []) (rest := []) F hNw hK hP hD hS hA (c_X7_peek l D cI cJ cB a0 a_kind a_left a_right a_many a_bits a_rows a_table a_roots a_moved a_out a_above a_below a_row a_sum a_point a_pointRows a_pointSorts a_text _ thrown used rooted size outSize points takenOut great at_ fault open_ wrong by_ sort variable_ pointCount text N hz117) wm_1223 cv_X7_peek [0, 1] [2] [1, 2, 0] (⟨rfl, rfl, rfl, by decide, rfl⟩ : Ix [0, 1] [2] [1, 2, 0] 3) rfl (hN_of 1 3 (by decide +kernel) rfl (by decide +kernel) rfl) rfl rfl rfl rfl ⟨rfl, rfl, by decide, by decide⟩ hl.1 rfl (Nat.le_of_ble_eq_true rfl) ⟨Nat.zero_le _, Nat.zero_le _⟩ dX7_side_117 (fun H locs hP hD hS => ?_)
  refine lv_bipush (v := 45) hx hb dX7_side_120 (by decide) ?_
  refine lv_icmp_ne (tgt := 129) hx hb dX7_side_122 (by decide) (fun c122 => ?_) (fun c122 => ?_)
  · have h := o_f c122 h
    refine lv_iconst (v := 0) hx hb dX7_side_129 (by decide) ?_
    exact w_X7_side_130 CX hK hsz (hK58 := hK58) at_ fault wrong sum_ y1 y3 0 _ _ _ h hP hD hS (lv_sub hl [0, 1, 2] rfl)
  · have h := o_t c122 h
    refine lv_iconst (v := 1) hx hb dX7_side_125 (by decide) ?_
    refine lv_goto (tgt := 130) hx hb dX7_side_126 (by decide) ?_
    exact w_X7_side_130 CX hK hsz (hK58 := hK58) at_ fault wrong sum_ y1 y3 1 _ _ _ h hP hD hS (lv_sub hl [0, 1, 2] rfl)
set_option maxHeartbeats 4000000 in
set_option maxRecDepth 100000 in
theorem w_X7_side_164 (CX : Cx p m c cX7_side 5 s args x0 RX7 meth none) (hK : va_K D vwCl (ty0 cI cJ cB) s) (hsz : s.heap.size = sz) : ∀ (at_ : Int32) (fault : Int32) (wrong : Int32) (sum_ : Nat → Int64) (H : Heap) (locs : List Loc) (ls : Array Slot), f_X7_side_164 N size at_ fault wrong text sum_ = some z → va_P D vwCl (ws_X7_side cI cJ cB a0 a_kind a_left a_right a_many a_bits a_rows a_table a_roots a_moved a_out a_above a_below a_row a_point a_pointRows a_pointSorts a_text a_sum thrown used rooted size outSize points takenOut great at_ fault open_ wrong by_ sort variable_ pointCount text sum_) H → va_D (va_A ws0 sz) (ws_X7_side cI cJ cB a0 a_kind a_left a_right a_many a_bits a_rows a_table a_roots a_moved a_out a_above a_below a_row a_point a_pointRows a_pointSorts a_text a_sum thrown used rooted size outSize points takenOut great at_ fault open_ wrong by_ sort variable_ pointCount text sum_) → va_S (va_A ws0 sz) s.heap H locs → lv_has ls 5 [] → W p l e rm_X7_side s m args below meth c H locs 0 0 (MQ below (gQ D sz ws0 (ws_X7_side cI cJ cB a0 a_kind a_left a_right a_many a_bits a_rows a_table a_roots a_moved a_out a_above a_below a_row a_point a_pointRows a_pointSorts a_text a_sum thrown used rooted size outSize points takenOut great z.1 z.2.1 open_ z.2.2.1 by_ sort variable_ pointCount text z.2.2.2) none) args s 0 0 (va_A ws0 sz)) (F0 m 164 ls []) := by
  obtain ⟨F, hr, hlk, hNw⟩ := id CX
  have hx := F.1
  have hb := F.2.1
  have hown := F.2.2.2.1
  have hA : ∀ q, s.heap.size ≤ q → va_A ws0 sz q := fun q hq => Or.inr (hsz ▸ hq)
  intro at_ fault wrong sum_ H locs ls h hP hD hS hl
  unfold f_X7_side_164 at h
  obtain rfl := Option.some.inj h
  exact r_vret F hr hlk dX7_side_164 hsz hP hD hS
set_option maxHeartbeats 4000000 in
set_option maxRecDepth 100000 in
theorem w_X7_side_58 (CX : Cx p m c cX7_side 5 s args x0 RX7 meth none) (hK : va_K D vwCl (ty0 cI cJ cB) s) (hsz : s.heap.size = sz) : ∀ (n : Nat), ∀ (at_ : Int32) (fault : Int32) (wrong : Int32) (sum_ : Nat → Int64) (y1 : Int64) (y3 : Int32) (H : Heap) (locs : List Loc) (ls : Array Slot), f_X7_side_58 N n size at_ fault wrong text sum_ y1 y3 = some z → va_P D vwCl (ws_X7_side cI cJ cB a0 a_kind a_left a_right a_many a_bits a_rows a_table a_roots a_moved a_out a_above a_below a_row a_point a_pointRows a_pointSorts a_text a_sum thrown used rooted size outSize points takenOut great at_ fault open_ wrong by_ sort variable_ pointCount text sum_) H → va_D (va_A ws0 sz) (ws_X7_side cI cJ cB a0 a_kind a_left a_right a_many a_bits a_rows a_table a_roots a_moved a_out a_above a_below a_row a_point a_pointRows a_pointSorts a_text a_sum thrown used rooted size outSize points takenOut great at_ fault open_ wrong by_ sort variable_ pointCount text sum_) → va_S (va_A ws0 sz) s.heap H locs → lv_has ls 5 [(0, .ref a0), (1, .long y1), (3, .int y3)] → W p l e rm_X7_side s m args below meth c H locs 0 0 (MQ below (gQ D sz ws0 (ws_X7_side cI cJ cB a0 a_kind a_left a_right a_many a_bits a_rows a_table a_roots a_moved a_out a_above a_below a_row a_point a_pointRows a_pointSorts a_text a_sum thrown used rooted size outSize points takenOut great z.1 z.2.1 open_ z.2.2.1 by_ sort variable_ pointCount text z.2.2.2) none) args s 0 0 (va_A ws0 sz)) (F0 m 58 ls []) := by
  obtain ⟨F, hr, hlk, hNw⟩ := id CX
  have hx := F.1
  have hb := F.2.1
  have hown := F.2.2.2.1
  have hA : ∀ q, s.heap.size ≤ q → va_A ws0 sz q := fun q hq => Or.inr (hsz ▸ hq)
  intro n
  induction n with
  | zero =>
    intro at_ fault wrong sum_ y1 y3 H locs ls h
    cases h
  | succ n ih =>
    intro at_ fault wrong sum_ y1 y3 H locs ls h hP hD hS hl
    unfold f_X7_side_58 at h
    refine lv_aload_n hx hb dX7_side_58 rfl (lv_at hl 0 rfl) ?_
    refine r_get F hK hP 0 25 rfl inW_X7 wm_1117 rfl (by decide) rfl dX7_side_59 ?_
    refine lv_if_ne (tgt := 164) hx hb dX7_side_62 (by decide) (fun c62 => ?_) (fun c62 => ?_)
    · have h := o_f c62 h
      exact w_X7_side_164 CX hK hsz at_ fault wrong sum_ _ _ _ h hP hD hS (lv_sub hl [] rfl)
    · have h := o_t c62 h
      refine lv_aload_n hx hb dX7_side_65 rfl (lv_at hl 0 rfl) ?_
      obtain ⟨z66, hz66, h⟩ := o_b h
      refine k_v (wn := (ws_X7_side cI cJ cB a0 a_kind a_left a_right a_many a_bits a_rows a_table a_roots a_moved a_out a_above a_below a_row a_point a_pointRows a_pointSorts a_text a_sum thrown used rooted size outSize points takenOut great at_ fault open_ wrong by_ sort variable_ pointCount text sum_)) (As := []) (rest := []) F hNw hK hP hD hS hA (c_X7_peek l D cI cJ cB a0 a_kind a_left a_right a_many a_bits a_rows a_table a_roots a_moved a_out a_above a_below a_row a_sum a_point a_pointRows a_pointSorts a_text _ thrown used rooted size outSize points takenOut great at_ fault open_ wrong by_ sort variable_ pointCount text N hz66) wm_1223 cv_X7_peek [0, 1] [2] [1, 2, 0] (⟨rfl, rfl, rfl, by decide, rfl⟩ : Ix [0, 1] [2] [1, 2, 0] 3) rfl (hN_of 1 3 (by decide +kernel) rfl (by decide +kernel) rfl) rfl rfl rfl rfl ⟨rfl, rfl, by decide, by decide⟩ hl.1 rfl (Nat.le_of_ble_eq_true rfl) ⟨Nat.zero_le _, Nat.zero_le _⟩ dX7_side_66 (fun H locs hP hD hS => ?_)
      refine lv_bipush (v := 43) hx hb dX7_side_69 (by decide) ?_
      refine lv_icmp_eq (tgt := 116) hx hb dX7_side_71 (by decide) (fun c71 => ?_) (fun c71 => ?_)
      · have h := o_t c71 h
        exact w_X7_side_116 CX hK hsz (hK58 := ih) at_ fault wrong sum_ y1 y3 _ _ _ h hP hD hS (lv_sub hl [0, 1, 2] rfl)
      · have h := o_f c71 h
        refine lv_aload_n hx hb dX7_side_74 rfl (lv_at hl 0 rfl) ?_
        obtain ⟨z75, hz75, h⟩ := o_b h
        refine k_v (wn := (ws_X7_side cI cJ cB a0 a_kind a_left a_right a_many a_bits a_rows a_table a_roots a_moved a_out a_above a_below a_row a_point a_pointRows a_pointSorts a_text a_sum thrown used rooted size outSize points takenOut great at_ fault open_ wrong by_ sort variable_ pointCount text sum_)) (As := []) (rest := []) F hNw hK hP hD hS hA (c_X7_peek l D cI cJ cB a0 a_kind a_left a_right a_many a_bits a_rows a_table a_roots a_moved a_out a_above a_below a_row a_sum a_point a_pointRows a_pointSorts a_text _ thrown used rooted size outSize points takenOut great at_ fault open_ wrong by_ sort variable_ pointCount text N hz75) wm_1223 cv_X7_peek [0, 1] [2] [1, 2, 0] (⟨rfl, rfl, rfl, by decide, rfl⟩ : Ix [0, 1] [2] [1, 2, 0] 3) rfl (hN_of 1 3 (by decide +kernel) rfl (by decide +kernel) rfl) rfl rfl rfl rfl ⟨rfl, rfl, by decide, by decide⟩ hl.1 rfl (Nat.le_of_ble_eq_true rfl) ⟨Nat.zero_le _, Nat.zero_le _⟩ dX7_side_75 (fun H locs hP hD hS => ?_)
        refine lv_bipush (v := 45) hx hb dX7_side_78 (by decide) ?_
        refine lv_icmp_ne (tgt := 164) hx hb dX7_side_80 (by decide) (fun c80 => ?_) (fun c80 => ?_)
        · have h := o_f c80 h
          exact w_X7_side_164 CX hK hsz at_ fault wrong sum_ _ _ _ h hP hD hS (lv_sub hl [] rfl)
        · have h := o_t c80 h
          refine lv_iload_n hx hb dX7_side_83 rfl (lv_at hl 2 rfl) ?_
          refine lv_if_eq (tgt := 116) hx hb dX7_side_84 (by decide) (fun c84 => ?_) (fun c84 => ?_)
          · have h := o_t c84 h
            exact w_X7_side_116 CX hK hsz (hK58 := ih) at_ fault wrong sum_ y1 y3 _ _ _ h hP hD hS (lv_sub hl [0, 1, 2] rfl)
          · have h := o_f c84 h
            refine lv_aload_n hx hb dX7_side_87 rfl (lv_at hl 0 rfl) ?_
            refine r_get F hK hP 0 22 rfl inW_X7 wm_1114 rfl (by decide) rfl dX7_side_88 ?_
            refine lv_iconst (v := 1) hx hb dX7_side_91 (by decide) ?_
            refine lv_iadd hx hb dX7_side_92 ?_
            refine lv_aload_n hx hb dX7_side_93 rfl (lv_at hl 0 rfl) ?_
            refine r_get F hK hP 0 13 rfl inW_X7 wm_1105 rfl (by decide) rfl dX7_side_94 ?_
            refine lv_icmp_ge (tgt := 116) hx hb dX7_side_97 (by decide) (fun c97 => ?_) (fun c97 => ?_)
            · have h := o_t c97 h
              exact w_X7_side_116 CX hK hsz (hK58 := ih) at_ fault wrong sum_ y1 y3 _ _ _ h hP hD hS (lv_sub hl [0, 1, 2] rfl)
            · have h := o_f c97 h
              refine lv_aload_n hx hb dX7_side_100 rfl (lv_at hl 0 rfl) ?_
              refine r_get F hK hP 0 12 rfl inW_X7 wm_1104 rfl (by decide) rfl dX7_side_101 ?_
              refine lv_aload_n hx hb dX7_side_104 rfl (lv_at hl 0 rfl) ?_
              refine r_get F hK hP 0 22 rfl inW_X7 wm_1114 rfl (by decide) rfl dX7_side_105 ?_
              refine lv_iconst (v := 1) hx hb dX7_side_108 (by decide) ?_
              refine lv_iadd hx hb dX7_side_109 ?_
              obtain ⟨hi110, h⟩ := o_ix h
              refine va_bald hx hb hK hP 1 2 rfl rfl hi110 dX7_side_110 ?_
              refine lv_bipush (v := 62) hx hb dX7_side_111 (by decide) ?_
              refine lv_icmp_eq (tgt := 164) hx hb dX7_side_113 (by decide) (fun c113 => ?_) (fun c113 => ?_)
              · have h := o_t c113 h
                exact w_X7_side_164 CX hK hsz at_ fault wrong sum_ _ _ _ h hP hD hS (lv_sub hl [] rfl)
              · have h := o_f c113 h
                exact w_X7_side_116 CX hK hsz (hK58 := ih) at_ fault wrong sum_ y1 y3 _ _ _ h hP hD hS (lv_sub hl [0, 1, 2] rfl)
set_option maxHeartbeats 4000000 in
set_option maxRecDepth 100000 in
theorem w_X7_side_51 (CX : Cx p m c cX7_side 5 s args x0 RX7 meth none) (hK : va_K D vwCl (ty0 cI cJ cB) s) (hsz : s.heap.size = sz) : ∀ (at_ : Int32) (fault : Int32) (wrong : Int32) (sum_ : Nat → Int64) (y1 : Int64) (y3 : Int32) (s1 : Int64) (H : Heap) (locs : List Loc) (ls : Array Slot), f_X7_side_51 N size at_ fault wrong text sum_ y1 y3 s1 = some z → va_P D vwCl (ws_X7_side cI cJ cB a0 a_kind a_left a_right a_many a_bits a_rows a_table a_roots a_moved a_out a_above a_below a_row a_point a_pointRows a_pointSorts a_text a_sum thrown used rooted size outSize points takenOut great at_ fault open_ wrong by_ sort variable_ pointCount text sum_) H → va_D (va_A ws0 sz) (ws_X7_side cI cJ cB a0 a_kind a_left a_right a_many a_bits a_rows a_table a_roots a_moved a_out a_above a_below a_row a_point a_pointRows a_pointSorts a_text a_sum thrown used rooted size outSize points takenOut great at_ fault open_ wrong by_ sort variable_ pointCount text sum_) → va_S (va_A ws0 sz) s.heap H locs → lv_has ls 5 [(0, .ref a0), (1, .long y1), (3, .int y3)] → W p l e rm_X7_side s m args below meth c H locs 0 0 (MQ below (gQ D sz ws0 (ws_X7_side cI cJ cB a0 a_kind a_left a_right a_many a_bits a_rows a_table a_roots a_moved a_out a_above a_below a_row a_point a_pointRows a_pointSorts a_text a_sum thrown used rooted size outSize points takenOut great z.1 z.2.1 open_ z.2.2.1 by_ sort variable_ pointCount text z.2.2.2) none) args s 0 0 (va_A ws0 sz)) (F0 m 51 ls [.long s1, .ref a0]) := by
  obtain ⟨F, hr, hlk, hNw⟩ := id CX
  have hx := F.1
  have hb := F.2.1
  have hown := F.2.2.2.1
  have hA : ∀ q, s.heap.size ≤ q → va_A ws0 sz q := fun q hq => Or.inr (hsz ▸ hq)
  intro at_ fault wrong sum_ y1 y3 s1 H locs ls h hP hD hS hl
  unfold f_X7_side_51 at h
  obtain ⟨z51, hz51, h⟩ := o_b h
  refine k_v (wn := (ws_X7_side cI cJ cB a0 a_kind a_left a_right a_many a_bits a_rows a_table a_roots a_moved a_out a_above a_below a_row a_point a_pointRows a_pointSorts a_text a_sum thrown used rooted size outSize points takenOut great z51.1 z51.2.1 open_ z51.2.2.1 by_ sort variable_ pointCount text z51.2.2.2)) (As := [.long s1]) (rest := []) F hNw hK hP hD hS hA (c_X7_item l D cI cJ cB a0 a_kind a_left a_right a_many a_bits a_rows a_table a_roots a_moved a_out a_above a_below a_row a_point a_pointRows a_pointSorts a_text a_sum _ thrown used rooted size outSize points takenOut great at_ fault open_ wrong by_ sort variable_ pointCount text sum_ s1 N hz51) wm_1239 cv_X7_item [0, 1, 2] [] [0, 1, 2] (⟨rfl, rfl, rfl, by decide, rfl⟩ : Ix [0, 1, 2] [] [0, 1, 2] 3) rfl (hN_of 0 3 (by decide +kernel) rfl (by decide +kernel) rfl) rfl rfl rfl rfl ⟨rfl, rfl, by decide, by decide⟩ hl.1 rfl (Nat.le_of_ble_eq_true rfl) ⟨Nat.zero_le _, Nat.zero_le _⟩ dX7_side_51 (fun H locs hP hD hS => ?_)
  refine lv_aload_n hx hb dX7_side_54 rfl (lv_at hl 0 rfl) ?_
  obtain ⟨z55, hz55, h⟩ := o_b h
  refine k_v (wn := (ws_X7_side cI cJ cB a0 a_kind a_left a_right a_many a_bits a_rows a_table a_roots a_moved a_out a_above a_below a_row a_point a_pointRows a_pointSorts a_text a_sum thrown used rooted size outSize points takenOut great z55 z51.2.1 open_ z51.2.2.1 by_ sort variable_ pointCount text z51.2.2.2)) (As := []) (rest := []) F hNw hK hP hD hS hA (c_X7_blanks l D cI cJ cB a0 a_kind a_left a_right a_many a_bits a_rows a_table a_roots a_moved a_out a_above a_below a_row a_sum a_point a_pointRows a_pointSorts a_text _ thrown used rooted size outSize points takenOut great z51.1 z51.2.1 open_ z51.2.2.1 by_ sort variable_ pointCount text N hz55) wm_1219 cv_X7_blanks [0, 1] [2] [1, 2, 0] (⟨rfl, rfl, rfl, by decide, rfl⟩ : Ix [0, 1] [2] [1, 2, 0] 3) rfl (hN_of 1 3 (by decide +kernel) rfl (by decide +kernel) rfl) rfl rfl rfl rfl ⟨rfl, rfl, by decide, by decide⟩ hl.1 rfl (Nat.le_of_ble_eq_true rfl) ⟨Nat.zero_le _, Nat.zero_le _⟩ dX7_side_55 (fun H locs hP hD hS => ?_)
  exact w_X7_side_58 CX hK hsz N z55 z51.2.1 z51.2.2.1 z51.2.2.2 y1 y3 _ _ _ h hP hD hS (lv_sub hl [0, 1, 2] rfl)
set_option maxHeartbeats 4000000 in
set_option maxRecDepth 100000 in
theorem w_X7_side_35 (CX : Cx p m c cX7_side 5 s args x0 RX7 meth none) (hK : va_K D vwCl (ty0 cI cJ cB) s) (hsz : s.heap.size = sz) : ∀ (at_ : Int32) (fault : Int32) (wrong : Int32) (sum_ : Nat → Int64) (y1 : Int64) (y3 : Int32) (y4 : Int32) (s1 : Int32) (s2 : Int32) (H : Heap) (locs : List Loc) (ls : Array Slot), f_X7_side_35 N size at_ fault wrong text sum_ y1 y3 y4 s1 s2 = some z → va_P D vwCl (ws_X7_side cI cJ cB a0 a_kind a_left a_right a_many a_bits a_rows a_table a_roots a_moved a_out a_above a_below a_row a_point a_pointRows a_pointSorts a_text a_sum thrown used rooted size outSize points takenOut great at_ fault open_ wrong by_ sort variable_ pointCount text sum_) H → va_D (va_A ws0 sz) (ws_X7_side cI cJ cB a0 a_kind a_left a_right a_many a_bits a_rows a_table a_roots a_moved a_out a_above a_below a_row a_point a_pointRows a_pointSorts a_text a_sum thrown used rooted size outSize points takenOut great at_ fault open_ wrong by_ sort variable_ pointCount text sum_) → va_S (va_A ws0 sz) s.heap H locs → lv_has ls 5 [(0, .ref a0), (1, .long y1), (3, .int y3), (4, .int y4)] → W p l e rm_X7_side s m args below meth c H locs 0 0 (MQ below (gQ D sz ws0 (ws_X7_side cI cJ cB a0 a_kind a_left a_right a_many a_bits a_rows a_table a_roots a_moved a_out a_above a_below a_row a_point a_pointRows a_pointSorts a_text a_sum thrown used rooted size outSize points takenOut great z.1 z.2.1 open_ z.2.2.1 by_ sort variable_ pointCount text z.2.2.2) none) args s 0 0 (va_A ws0 sz)) (F0 m 35 ls [.int s2, .int s1, .ref a0]) := by
  obtain ⟨F, hr, hlk, hNw⟩ := id CX
  have hx := F.1
  have hb := F.2.1
  have hown := F.2.2.2.1
  have hA : ∀ q, s.heap.size ≤ q → va_A ws0 sz q := fun q hq => Or.inr (hsz ▸ hq)
  intro at_ fault wrong sum_ y1 y3 y4 s1 s2 H locs ls h hP hD hS hl
  unfold f_X7_side_35 at h
  refine lv_iadd hx hb dX7_side_35 ?_
  refine r_put (wn := (ws_X7_side cI cJ cB a0 a_kind a_left a_right a_many a_bits a_rows a_table a_roots a_moved a_out a_above a_below a_row a_point a_pointRows a_pointSorts a_text a_sum thrown used rooted size outSize points takenOut great (s1 + s2) fault open_ wrong by_ sort variable_ pointCount text sum_)) F hK hP hD hS 0 22 rfl inW_X7 wm_1114 tyX7_ok nmX7 rfl rfl (by decide) rfl rfl (Nat.le_of_ble_eq_true rfl) rfl dX7_side_36 (fun H locs hP hD hS => ?_)
  refine lv_aload_n hx hb dX7_side_39 rfl (lv_at hl 0 rfl) ?_
  refine lv_iload hx hb dX7_side_40 (lv_at hl 3 rfl) ?_
  refine lv_if_eq (tgt := 50) hx hb dX7_side_42 (by decide) (fun c42 => ?_) (fun c42 => ?_)
  · have h := o_t c42 h
    refine lv_lload_n hx hb dX7_side_50 rfl (lv_at hl 1 rfl) ?_
    exact w_X7_side_51 CX hK hsz (s1 + s2) fault wrong sum_ y1 y3 y1 _ _ _ h hP hD hS (lv_sub hl [0, 1, 2] rfl)
  · have h := o_f c42 h
    refine lv_lload_n hx hb dX7_side_45 rfl (lv_at hl 1 rfl) ?_
    refine lv_lneg hx hb dX7_side_46 ?_
    refine lv_goto (tgt := 51) hx hb dX7_side_47 (by decide) ?_
    exact w_X7_side_51 CX hK hsz (s1 + s2) fault wrong sum_ y1 y3 (-y1) _ _ _ h hP hD hS (lv_sub hl [0, 1, 2] rfl)
set_option maxHeartbeats 4000000 in
set_option maxRecDepth 100000 in
theorem w_X7_side_18 (CX : Cx p m c cX7_side 5 s args x0 RX7 meth none) (hK : va_K D vwCl (ty0 cI cJ cB) s) (hsz : s.heap.size = sz) : ∀ (at_ : Int32) (fault : Int32) (wrong : Int32) (sum_ : Nat → Int64) (y1 : Int64) (y3 : Int32) (s0 : Int32) (H : Heap) (locs : List Loc) (ls : Array Slot), f_X7_side_18 N size at_ fault wrong text sum_ y1 y3 s0 = some z → va_P D vwCl (ws_X7_side cI cJ cB a0 a_kind a_left a_right a_many a_bits a_rows a_table a_roots a_moved a_out a_above a_below a_row a_point a_pointRows a_pointSorts a_text a_sum thrown used rooted size outSize points takenOut great at_ fault open_ wrong by_ sort variable_ pointCount text sum_) H → va_D (va_A ws0 sz) (ws_X7_side cI cJ cB a0 a_kind a_left a_right a_many a_bits a_rows a_table a_roots a_moved a_out a_above a_below a_row a_point a_pointRows a_pointSorts a_text a_sum thrown used rooted size outSize points takenOut great at_ fault open_ wrong by_ sort variable_ pointCount text sum_) → va_S (va_A ws0 sz) s.heap H locs → lv_has ls 5 [(0, .ref a0), (1, .long y1), (3, .int y3)] → W p l e rm_X7_side s m args below meth c H locs 0 0 (MQ below (gQ D sz ws0 (ws_X7_side cI cJ cB a0 a_kind a_left a_right a_many a_bits a_rows a_table a_roots a_moved a_out a_above a_below a_row a_point a_pointRows a_pointSorts a_text a_sum thrown used rooted size outSize points takenOut great z.1 z.2.1 open_ z.2.2.1 by_ sort variable_ pointCount text z.2.2.2) none) args s 0 0 (va_A ws0 sz)) (F0 m 18 ls [.int s0]) := by
  obtain ⟨F, hr, hlk, hNw⟩ := id CX
  have hx := F.1
  have hb := F.2.1
  have hown := F.2.2.2.1
  have hA : ∀ q, s.heap.size ≤ q → va_A ws0 sz q := fun q hq => Or.inr (hsz ▸ hq)
  intro at_ fault wrong sum_ y1 y3 s0 H locs ls h hP hD hS hl
  unfold f_X7_side_18 at h
  refine lv_istore (lv' := [(4, .int s0), (0, .ref a0), (1, .long y1), (3, .int y3)]) hx hb dX7_side_18 hl (by decide) rfl (fun ls hl => ?_)
  refine lv_aload_n hx hb dX7_side_20 rfl (lv_at hl 1 rfl) ?_
  refine lv_dup hx hb dX7_side_21 rfl ?_
  refine r_get F hK hP 0 22 rfl inW_X7 wm_1114 rfl (by decide) rfl dX7_side_22 ?_
  refine lv_iload hx hb dX7_side_25 (lv_at hl 0 rfl) ?_
  refine lv_if_eq (tgt := 34) hx hb dX7_side_27 (by decide) (fun c27 => ?_) (fun c27 => ?_)
  · have h := o_t c27 h
    refine lv_iconst (v := 0) hx hb dX7_side_34 (by decide) ?_
    exact w_X7_side_35 CX hK hsz at_ fault wrong sum_ y1 y3 s0 at_ 0 _ _ _ h hP hD hS (lv_sub hl [1, 2, 3, 0] rfl)
  · have h := o_f c27 h
    refine lv_iconst (v := 1) hx hb dX7_side_30 (by decide) ?_
    refine lv_goto (tgt := 35) hx hb dX7_side_31 (by decide) ?_
    exact w_X7_side_35 CX hK hsz at_ fault wrong sum_ y1 y3 s0 at_ 1 _ _ _ h hP hD hS (lv_sub hl [1, 2, 3, 0] rfl)
end G_X7_side
set_option maxHeartbeats 4000000 in
set_option maxRecDepth 100000 in
theorem c_X7_side (l : Launch) (D : va_G) (cI cJ cB : ClassId) (a0 a_kind a_left a_right a_many a_bits a_rows a_table a_roots a_moved a_out a_above a_below a_row a_point a_pointRows a_pointSorts a_text a_sum : Nat) (sz : Nat) (thrown : Int32) (used : Int32) (rooted : Int32) (size : Int32) (outSize : Int32) (points : Int32) (takenOut : Int32) (great : Int32) (at_ : Int32) (fault : Int32) (open_ : Int32) (wrong : Int32) (by_ : Int64) (sort : Int32) (variable_ : Int32) (pointCount : Int32) (text : Nat → Int32) (sum_ : Nat → Int64) (x1 : Int64) (x2 : Int32) (N : Nat) {z : (Int32) × (Int32) × (Int32) × (Nat → Int64)} (h : f_X7_side N size at_ fault wrong text sum_ x1 x2 = some z) : Mg l yX7_side cX7_side 5 none rm_X7_side D (ty0 cI cJ cB) [.ref a0, .long x1, .int x2] sz (ws_X7_side cI cJ cB a0 a_kind a_left a_right a_many a_bits a_rows a_table a_roots a_moved a_out a_above a_below a_row a_point a_pointRows a_pointSorts a_text a_sum thrown used rooted size outSize points takenOut great at_ fault open_ wrong by_ sort variable_ pointCount text sum_) none (ws_X7_side cI cJ cB a0 a_kind a_left a_right a_many a_bits a_rows a_table a_roots a_moved a_out a_above a_below a_row a_point a_pointRows a_pointSorts a_text a_sum thrown used rooted size outSize points takenOut great z.1 z.2.1 open_ z.2.2.1 by_ sort variable_ pointCount text z.2.2.2) := by
  refine Mg.of (by decide) (Nat.le_of_ble_eq_true rfl) ?_
  intro p e s m below meth c CX hK hsz hP hD ls hl
  have CX : Cx p m c cX7_side 5 s ([.ref a0, .long x1, .int x2] : List Value).toArray (Cond.code yX7_side cX7_side 5 none) RX7 meth none := CX
  obtain ⟨F, hr, hlk, hNw⟩ := id CX
  have hx := F.1
  have hb := F.2.1
  have hown := F.2.2.2.1
  have hl : lv_has ls 5 [(0, .ref a0), (1, .long x1), (3, .int x2)] := hl
  have hS : va_S (va_A (ws_X7_side cI cJ cB a0 a_kind a_left a_right a_many a_bits a_rows a_table a_roots a_moved a_out a_above a_below a_row a_point a_pointRows a_pointSorts a_text a_sum thrown used rooted size outSize points takenOut great at_ fault open_ wrong by_ sort variable_ pointCount text sum_) sz) s.heap s.heap [] := va_S.rf
  have hA : ∀ q, s.heap.size ≤ q → va_A (ws_X7_side cI cJ cB a0 a_kind a_left a_right a_many a_bits a_rows a_table a_roots a_moved a_out a_above a_below a_row a_point a_pointRows a_pointSorts a_text a_sum thrown used rooted size outSize points takenOut great at_ fault open_ wrong by_ sort variable_ pointCount text sum_) sz q := fun q hq => Or.inr (hsz ▸ hq)
  unfold f_X7_side at h
  refine lv_aload_n hx hb dX7_side_0 rfl (lv_at hl 0 rfl) ?_
  obtain ⟨z1, hz1, h⟩ := o_b h
  refine k_v (wn := (ws_X7_side cI cJ cB a0 a_kind a_left a_right a_many a_bits a_rows a_table a_roots a_moved a_out a_above a_below a_row a_point a_pointRows a_pointSorts a_text a_sum thrown used rooted size outSize points takenOut great z1 fault open_ wrong by_ sort variable_ pointCount text sum_)) (As := []) (rest := []) F hNw hK hP hD hS hA (c_X7_blanks l D cI cJ cB a0 a_kind a_left a_right a_many a_bits a_rows a_table a_roots a_moved a_out a_above a_below a_row a_sum a_point a_pointRows a_pointSorts a_text _ thrown used rooted size outSize points takenOut great at_ fault open_ wrong by_ sort variable_ pointCount text N hz1) wm_1219 cv_X7_blanks [0, 1] [2] [1, 2, 0] (⟨rfl, rfl, rfl, by decide, rfl⟩ : Ix [0, 1] [2] [1, 2, 0] 3) rfl (hN_of 1 3 (by decide +kernel) rfl (by decide +kernel) rfl) rfl rfl rfl rfl ⟨rfl, rfl, by decide, by decide⟩ hl.1 rfl (Nat.le_of_ble_eq_true rfl) ⟨Nat.zero_le _, Nat.zero_le _⟩ dX7_side_1 (fun H locs hP hD hS => ?_)
  refine lv_aload_n hx hb dX7_side_4 rfl (lv_at hl 0 rfl) ?_
  obtain ⟨z5, hz5, h⟩ := o_b h
  refine k_v (wn := (ws_X7_side cI cJ cB a0 a_kind a_left a_right a_many a_bits a_rows a_table a_roots a_moved a_out a_above a_below a_row a_point a_pointRows a_pointSorts a_text a_sum thrown used rooted size outSize points takenOut great z1 fault open_ wrong by_ sort variable_ pointCount text sum_)) (As := []) (rest := []) F hNw hK hP hD hS hA (c_X7_peek l D cI cJ cB a0 a_kind a_left a_right a_many a_bits a_rows a_table a_roots a_moved a_out a_above a_below a_row a_sum a_point a_pointRows a_pointSorts a_text _ thrown used rooted size outSize points takenOut great z1 fault open_ wrong by_ sort variable_ pointCount text N hz5) wm_1223 cv_X7_peek [0, 1] [2] [1, 2, 0] (⟨rfl, rfl, rfl, by decide, rfl⟩ : Ix [0, 1] [2] [1, 2, 0] 3) rfl (hN_of 1 3 (by decide +kernel) rfl (by decide +kernel) rfl) rfl rfl rfl rfl ⟨rfl, rfl, by decide, by decide⟩ hl.1 rfl (Nat.le_of_ble_eq_true rfl) ⟨Nat.zero_le _, Nat.zero_le _⟩ dX7_side_5 (fun H locs hP hD hS => ?_)
  refine lv_bipush (v := 45) hx hb dX7_side_8 (by decide) ?_
  refine lv_icmp_ne (tgt := 17) hx hb dX7_side_10 (by decide) (fun c10 => ?_) (fun c10 => ?_)
  · have h := o_f c10 h
    refine lv_iconst (v := 0) hx hb dX7_side_17 (by decide) ?_
    exact w_X7_side_18 CX hK hsz z1 fault wrong sum_ x1 x2 0 _ _ _ h hP hD hS (lv_sub hl [0, 1, 2] rfl)
  · have h := o_t c10 h
    refine lv_iconst (v := 1) hx hb dX7_side_13 (by decide) ?_
    refine lv_goto (tgt := 18) hx hb dX7_side_14 (by decide) ?_
    exact w_X7_side_18 CX hK hsz z1 fault wrong sum_ x1 x2 1 _ _ _ h hP hD hS (lv_sub hl [0, 1, 2] rfl)
