section G_X7_sweep
abbrev ws_X7_sweep (cI cJ cB : ClassId) (a0 a_text a_out a_above a_below a_sum a_point a_pointRows a_pointSorts a_kind a_left a_right a_many a_bits a_rows a_table a_roots a_moved a_row : Nat) (thrown : Int32) (used : Int32) (rooted : Int32) (size : Int32) (outSize : Int32) (points : Int32) (takenOut : Int32) (great : Int32) (at_ : Int32) (fault : Int32) (open_ : Int32) (wrong : Int32) (by_ : Int64) (sort : Int32) (variable_ : Int32) (pointCount : Int32) (kind : Nat → Int32) (left_ : Nat → Int32) (right_ : Nat → Int32) (many : Nat → Int32) (bits : Nat → Int32) (rows : Nat → Int32) (table : Nat → Int32) (roots : Nat → Int32) (moved : Nat → Int32) (row : Nat → Int64) : va_W := [(a0, .inr (9, [.int thrown, .ref a_kind, .ref a_left, .ref a_right, .ref a_many, .ref a_bits, .ref a_rows, .ref a_table, .int used, .ref a_roots, .int rooted, .ref a_moved, .ref a_text, .int size, .ref a_out, .int outSize, .ref a_above, .ref a_below, .int points, .int takenOut, .int great, .ref a_row, .int at_, .int fault, .int open_, .int wrong, .ref a_sum, .ref a_point, .long by_, .int sort, .int variable_, .ref a_pointRows, .ref a_pointSorts, .int pointCount])), (a_kind, .inl (cI, 24000, .inl kind)), (a_left, .inl (cI, 24000, .inl left_)), (a_right, .inl (cI, 24000, .inl right_)), (a_many, .inl (cI, 24000, .inl many)), (a_bits, .inl (cI, 24000, .inl bits)), (a_rows, .inl (cI, 216000, .inl rows)), (a_table, .inl (cI, 65536, .inl table)), (a_roots, .inl (cI, 2000, .inl roots)), (a_moved, .inl (cI, 24000, .inl moved)), (a_row, .inl (cJ, 9, .inr (.inl row)))]
abbrev rm_X7_sweep : Room := { frames := 1, cells := 0, slots := 0, locals := 27 }
def f_X7_sweep_25 (K2 : Int32 → Int32 → (Nat → Int32) → (Nat → Int32) → (Nat → Int32) → (Nat → Int32) → (Nat → Int32) → (Nat → Int32) → (Nat → Int32) → (Nat → Int32) → (Nat → Int32) → (Nat → Int64) → Int32 → Option ((Int32) × (Nat → Int32) × (Nat → Int32) × (Nat → Int32) × (Nat → Int32) × (Nat → Int32) × (Nat → Int32) × (Nat → Int32) × (Nat → Int32) × (Nat → Int32))) (N : Nat) (used : Int32) (rooted : Int32) (kind : Nat → Int32) (left_ : Nat → Int32) (right_ : Nat → Int32) (many : Nat → Int32) (bits : Nat → Int32) (rows : Nat → Int32) (table : Nat → Int32) (roots : Nat → Int32) (moved : Nat → Int32) (row : Nat → Int64) (y1 : Int32) (s1 : Int32) (s2 : Int32) : Option ((Int32) × (Nat → Int32) × (Nat → Int32) × (Nat → Int32) × (Nat → Int32) × (Nat → Int32) × (Nat → Int32) × (Nat → Int32) × (Nat → Int32) × (Nat → Int32)) := ix s1 24000 (K2 used rooted kind left_ right_ many bits rows table roots (upd moved s1.toNatClampNeg s2) row (y1 + 1))
def f_X7_sweep_125 (K67 : Int32 → Int32 → (Nat → Int32) → (Nat → Int32) → (Nat → Int32) → (Nat → Int32) → (Nat → Int32) → (Nat → Int32) → (Nat → Int32) → (Nat → Int32) → (Nat → Int32) → (Nat → Int64) → Int32 → Option ((Int32) × (Nat → Int32) × (Nat → Int32) × (Nat → Int32) × (Nat → Int32) × (Nat → Int32) × (Nat → Int32) × (Nat → Int32) × (Nat → Int32) × (Nat → Int32))) (N : Nat) (used : Int32) (rooted : Int32) (kind : Nat → Int32) (left_ : Nat → Int32) (right_ : Nat → Int32) (many : Nat → Int32) (bits : Nat → Int32) (rows : Nat → Int32) (table : Nat → Int32) (roots : Nat → Int32) (moved : Nat → Int32) (row : Nat → Int64) (y1 : Int32) : Option ((Int32) × (Nat → Int32) × (Nat → Int32) × (Nat → Int32) × (Nat → Int32) × (Nat → Int32) × (Nat → Int32) × (Nat → Int32) × (Nat → Int32) × (Nat → Int32)) := K67 used rooted kind left_ right_ many bits rows table roots moved row (y1 + (-1))
def f_X7_sweep_317 (K135 : Int32 → Int32 → (Nat → Int32) → (Nat → Int32) → (Nat → Int32) → (Nat → Int32) → (Nat → Int32) → (Nat → Int32) → (Nat → Int32) → (Nat → Int32) → (Nat → Int32) → (Nat → Int64) → Int32 → Int32 → Option ((Int32) × (Nat → Int32) × (Nat → Int32) × (Nat → Int32) × (Nat → Int32) × (Nat → Int32) × (Nat → Int32) × (Nat → Int32) × (Nat → Int32) × (Nat → Int32))) (N : Nat) (used : Int32) (rooted : Int32) (kind : Nat → Int32) (left_ : Nat → Int32) (right_ : Nat → Int32) (many : Nat → Int32) (bits : Nat → Int32) (rows : Nat → Int32) (table : Nat → Int32) (roots : Nat → Int32) (moved : Nat → Int32) (row : Nat → Int64) (y1 : Int32) (y2 : Int32) : Option ((Int32) × (Nat → Int32) × (Nat → Int32) × (Nat → Int32) × (Nat → Int32) × (Nat → Int32) × (Nat → Int32) × (Nat → Int32) × (Nat → Int32) × (Nat → Int32)) := K135 used rooted kind left_ right_ many bits rows table roots moved row y1 (y2 + 1)
def f_X7_sweep_273 (K135 : Int32 → Int32 → (Nat → Int32) → (Nat → Int32) → (Nat → Int32) → (Nat → Int32) → (Nat → Int32) → (Nat → Int32) → (Nat → Int32) → (Nat → Int32) → (Nat → Int32) → (Nat → Int64) → Int32 → Int32 → Option ((Int32) × (Nat → Int32) × (Nat → Int32) × (Nat → Int32) × (Nat → Int32) × (Nat → Int32) × (Nat → Int32) × (Nat → Int32) × (Nat → Int32) × (Nat → Int32))) (N : Nat) : Nat → Int32 → Int32 → (Nat → Int32) → (Nat → Int32) → (Nat → Int32) → (Nat → Int32) → (Nat → Int32) → (Nat → Int32) → (Nat → Int32) → (Nat → Int32) → (Nat → Int32) → (Nat → Int64) → Int32 → Int32 → Int32 → Option ((Int32) × (Nat → Int32) × (Nat → Int32) × (Nat → Int32) × (Nat → Int32) × (Nat → Int32) × (Nat → Int32) × (Nat → Int32) × (Nat → Int32) × (Nat → Int32))
  | 0 => fun _ _ _ _ _ _ _ _ _ _ _ _ _ _ _ => none
  | n + 1 => fun used rooted kind left_ right_ many bits rows table roots moved row y1 y2 y3 => ifb (9 ≤ y3) (ix y2 24000 (f_X7_sweep_317 K135 N used rooted kind left_ right_ many bits rows table roots (upd moved y2.toNatClampNeg y1) row (y1 + 1) y2)) (ix ((9 * y2) + y3) 216000 (ix ((9 * y1) + y3) 216000 (f_X7_sweep_273 K135 N n used rooted kind left_ right_ many bits (upd rows ((9 * y1) + y3).toNatClampNeg (rows ((9 * y2) + y3).toNatClampNeg)) table roots moved row y1 y2 (y3 + 1))))
def f_X7_sweep_246 (K135 : Int32 → Int32 → (Nat → Int32) → (Nat → Int32) → (Nat → Int32) → (Nat → Int32) → (Nat → Int32) → (Nat → Int32) → (Nat → Int32) → (Nat → Int32) → (Nat → Int32) → (Nat → Int64) → Int32 → Int32 → Option ((Int32) × (Nat → Int32) × (Nat → Int32) × (Nat → Int32) × (Nat → Int32) × (Nat → Int32) × (Nat → Int32) × (Nat → Int32) × (Nat → Int32) × (Nat → Int32))) (N : Nat) (used : Int32) (rooted : Int32) (kind : Nat → Int32) (left_ : Nat → Int32) (right_ : Nat → Int32) (many : Nat → Int32) (bits : Nat → Int32) (rows : Nat → Int32) (table : Nat → Int32) (roots : Nat → Int32) (moved : Nat → Int32) (row : Nat → Int64) (y1 : Int32) (y2 : Int32) (s1 : Int32) (s2 : Int32) : Option ((Int32) × (Nat → Int32) × (Nat → Int32) × (Nat → Int32) × (Nat → Int32) × (Nat → Int32) × (Nat → Int32) × (Nat → Int32) × (Nat → Int32) × (Nat → Int32)) := ix s1 24000 (ix y2 24000 (ix y1 24000 (ix y2 24000 (ix y1 24000 (f_X7_sweep_273 K135 N N used rooted kind left_ (upd right_ s1.toNatClampNeg s2) (upd many y1.toNatClampNeg (many y2.toNatClampNeg)) (upd bits y1.toNatClampNeg (bits y2.toNatClampNeg)) rows table roots moved row y1 y2 0)))))
def f_X7_sweep_210 (K135 : Int32 → Int32 → (Nat → Int32) → (Nat → Int32) → (Nat → Int32) → (Nat → Int32) → (Nat → Int32) → (Nat → Int32) → (Nat → Int32) → (Nat → Int32) → (Nat → Int32) → (Nat → Int64) → Int32 → Int32 → Option ((Int32) × (Nat → Int32) × (Nat → Int32) × (Nat → Int32) × (Nat → Int32) × (Nat → Int32) × (Nat → Int32) × (Nat → Int32) × (Nat → Int32) × (Nat → Int32))) (N : Nat) (used : Int32) (rooted : Int32) (kind : Nat → Int32) (left_ : Nat → Int32) (right_ : Nat → Int32) (many : Nat → Int32) (bits : Nat → Int32) (rows : Nat → Int32) (table : Nat → Int32) (roots : Nat → Int32) (moved : Nat → Int32) (row : Nat → Int64) (y1 : Int32) (y2 : Int32) (s1 : Int32) (s2 : Int32) : Option ((Int32) × (Nat → Int32) × (Nat → Int32) × (Nat → Int32) × (Nat → Int32) × (Nat → Int32) × (Nat → Int32) × (Nat → Int32) × (Nat → Int32) × (Nat → Int32)) := ix s1 24000 (ix y2 24000 (ifb ((kind y2.toNatClampNeg) < 3) (ix y2 24000 (f_X7_sweep_246 K135 N used rooted kind (upd left_ s1.toNatClampNeg s2) right_ many bits rows table roots moved row y1 y2 y1 (right_ y2.toNatClampNeg))) (ix y2 24000 (ix (right_ y2.toNatClampNeg) 24000 (f_X7_sweep_246 K135 N used rooted kind (upd left_ s1.toNatClampNeg s2) right_ many bits rows table roots moved row y1 y2 y1 (moved (right_ y2.toNatClampNeg).toNatClampNeg))))))
def f_X7_sweep_190 (K135 : Int32 → Int32 → (Nat → Int32) → (Nat → Int32) → (Nat → Int32) → (Nat → Int32) → (Nat → Int32) → (Nat → Int32) → (Nat → Int32) → (Nat → Int32) → (Nat → Int32) → (Nat → Int64) → Int32 → Int32 → Option ((Int32) × (Nat → Int32) × (Nat → Int32) × (Nat → Int32) × (Nat → Int32) × (Nat → Int32) × (Nat → Int32) × (Nat → Int32) × (Nat → Int32) × (Nat → Int32))) (N : Nat) (used : Int32) (rooted : Int32) (kind : Nat → Int32) (left_ : Nat → Int32) (right_ : Nat → Int32) (many : Nat → Int32) (bits : Nat → Int32) (rows : Nat → Int32) (table : Nat → Int32) (roots : Nat → Int32) (moved : Nat → Int32) (row : Nat → Int64) (y1 : Int32) (y2 : Int32) (s1 : Int32) : Option ((Int32) × (Nat → Int32) × (Nat → Int32) × (Nat → Int32) × (Nat → Int32) × (Nat → Int32) × (Nat → Int32) × (Nat → Int32) × (Nat → Int32) × (Nat → Int32)) := ix y2 24000 (ix (left_ y2.toNatClampNeg) 24000 (f_X7_sweep_210 K135 N used rooted kind left_ right_ many bits rows table roots moved row y1 y2 s1 (moved (left_ y2.toNatClampNeg).toNatClampNeg)))
def f_X7_sweep_431 (K384 : Int32 → Int32 → (Nat → Int32) → (Nat → Int32) → (Nat → Int32) → (Nat → Int32) → (Nat → Int32) → (Nat → Int32) → (Nat → Int32) → (Nat → Int32) → (Nat → Int32) → (Nat → Int64) → Int32 → Option ((Int32) × (Nat → Int32) × (Nat → Int32) × (Nat → Int32) × (Nat → Int32) × (Nat → Int32) × (Nat → Int32) × (Nat → Int32) × (Nat → Int32) × (Nat → Int32))) (N : Nat) : Nat → Int32 → Int32 → (Nat → Int32) → (Nat → Int32) → (Nat → Int32) → (Nat → Int32) → (Nat → Int32) → (Nat → Int32) → (Nat → Int32) → (Nat → Int32) → (Nat → Int32) → (Nat → Int64) → Int32 → Int32 → Option ((Int32) × (Nat → Int32) × (Nat → Int32) × (Nat → Int32) × (Nat → Int32) × (Nat → Int32) × (Nat → Int32) × (Nat → Int32) × (Nat → Int32) × (Nat → Int32))
  | 0 => fun _ _ _ _ _ _ _ _ _ _ _ _ _ _ => none
  | n + 1 => fun used rooted kind left_ right_ many bits rows table roots moved row y2 y3 => ix y3 65536 (ifb ((table y3.toNatClampNeg) ≤ 0) (ix y3 65536 (K384 used rooted kind left_ right_ many bits rows (upd table y3.toNatClampNeg (y2 + 1)) roots moved row (y2 + 1))) (f_X7_sweep_431 K384 N n used rooted kind left_ right_ many bits rows table roots moved row y2 ((y3 + 1) &&& 65535)))
def f_X7_sweep_426 (K384 : Int32 → Int32 → (Nat → Int32) → (Nat → Int32) → (Nat → Int32) → (Nat → Int32) → (Nat → Int32) → (Nat → Int32) → (Nat → Int32) → (Nat → Int32) → (Nat → Int32) → (Nat → Int64) → Int32 → Option ((Int32) × (Nat → Int32) × (Nat → Int32) × (Nat → Int32) × (Nat → Int32) × (Nat → Int32) × (Nat → Int32) × (Nat → Int32) × (Nat → Int32) × (Nat → Int32))) (N : Nat) (used : Int32) (rooted : Int32) (kind : Nat → Int32) (left_ : Nat → Int32) (right_ : Nat → Int32) (many : Nat → Int32) (bits : Nat → Int32) (rows : Nat → Int32) (table : Nat → Int32) (roots : Nat → Int32) (moved : Nat → Int32) (row : Nat → Int64) (y2 : Int32) (s1 : Int32) (s2 : Int32) (s3 : Int32) (s4 : Int32) : Option ((Int32) × (Nat → Int32) × (Nat → Int32) × (Nat → Int32) × (Nat → Int32) × (Nat → Int32) × (Nat → Int32) × (Nat → Int32) × (Nat → Int32) × (Nat → Int32)) := (f_X7_hashOf N rows row s1 s2 s3 s4 y2).bind (fun z427 => f_X7_sweep_431 K384 N N used rooted kind left_ right_ many bits rows table roots moved row y2 z427)
def f_X7_sweep_384 (N : Nat) : Nat → Int32 → Int32 → (Nat → Int32) → (Nat → Int32) → (Nat → Int32) → (Nat → Int32) → (Nat → Int32) → (Nat → Int32) → (Nat → Int32) → (Nat → Int32) → (Nat → Int32) → (Nat → Int64) → Int32 → Option ((Int32) × (Nat → Int32) × (Nat → Int32) × (Nat → Int32) × (Nat → Int32) × (Nat → Int32) × (Nat → Int32) × (Nat → Int32) × (Nat → Int32) × (Nat → Int32))
  | 0 => fun _ _ _ _ _ _ _ _ _ _ _ _ _ => none
  | n + 1 => fun used rooted kind left_ right_ many bits rows table roots moved row y2 => ifb (used ≤ y2) (some (used, kind, left_, right_, many, bits, rows, table, roots, moved)) (ix y2 24000 (ix y2 24000 (ix y2 24000 (ix y2 24000 (ifb ((kind y2.toNatClampNeg) = 2) (f_X7_sweep_426 (f_X7_sweep_384 N n) N used rooted kind left_ right_ many bits rows table roots moved row y2 (kind y2.toNatClampNeg) (left_ y2.toNatClampNeg) (right_ y2.toNatClampNeg) 1) (f_X7_sweep_426 (f_X7_sweep_384 N n) N used rooted kind left_ right_ many bits rows table roots moved row y2 (kind y2.toNatClampNeg) (left_ y2.toNatClampNeg) (right_ y2.toNatClampNeg) 0))))))
def f_X7_sweep_363 (N : Nat) : Nat → Int32 → Int32 → (Nat → Int32) → (Nat → Int32) → (Nat → Int32) → (Nat → Int32) → (Nat → Int32) → (Nat → Int32) → (Nat → Int32) → (Nat → Int32) → (Nat → Int32) → (Nat → Int64) → Int32 → Option ((Int32) × (Nat → Int32) × (Nat → Int32) × (Nat → Int32) × (Nat → Int32) × (Nat → Int32) × (Nat → Int32) × (Nat → Int32) × (Nat → Int32) × (Nat → Int32))
  | 0 => fun _ _ _ _ _ _ _ _ _ _ _ _ _ => none
  | n + 1 => fun used rooted kind left_ right_ many bits rows table roots moved row y2 => ifb (65536 ≤ y2) (f_X7_sweep_384 N N used rooted kind left_ right_ many bits rows table roots moved row 0) (ix y2 65536 (f_X7_sweep_363 N n used rooted kind left_ right_ many bits rows (upd table y2.toNatClampNeg 0) roots moved row (y2 + 1)))
def f_X7_sweep_330 (N : Nat) : Nat → Int32 → Int32 → (Nat → Int32) → (Nat → Int32) → (Nat → Int32) → (Nat → Int32) → (Nat → Int32) → (Nat → Int32) → (Nat → Int32) → (Nat → Int32) → (Nat → Int32) → (Nat → Int64) → Int32 → Option ((Int32) × (Nat → Int32) × (Nat → Int32) × (Nat → Int32) × (Nat → Int32) × (Nat → Int32) × (Nat → Int32) × (Nat → Int32) × (Nat → Int32) × (Nat → Int32))
  | 0 => fun _ _ _ _ _ _ _ _ _ _ _ _ _ => none
  | n + 1 => fun used rooted kind left_ right_ many bits rows table roots moved row y2 => ifb (rooted ≤ y2) (f_X7_sweep_363 N N used rooted kind left_ right_ many bits rows table roots moved row 0) (ix y2 2000 (ix (roots y2.toNatClampNeg) 24000 (ix y2 2000 (f_X7_sweep_330 N n used rooted kind left_ right_ many bits rows table (upd roots y2.toNatClampNeg (moved (roots y2.toNatClampNeg).toNatClampNeg)) moved row (y2 + 1)))))
def f_X7_sweep_135 (N : Nat) : Nat → Int32 → Int32 → (Nat → Int32) → (Nat → Int32) → (Nat → Int32) → (Nat → Int32) → (Nat → Int32) → (Nat → Int32) → (Nat → Int32) → (Nat → Int32) → (Nat → Int32) → (Nat → Int64) → Int32 → Int32 → Option ((Int32) × (Nat → Int32) × (Nat → Int32) × (Nat → Int32) × (Nat → Int32) × (Nat → Int32) × (Nat → Int32) × (Nat → Int32) × (Nat → Int32) × (Nat → Int32))
  | 0 => fun _ _ _ _ _ _ _ _ _ _ _ _ _ _ => none
  | n + 1 => fun used rooted kind left_ right_ many bits rows table roots moved row y1 y2 => ifb (used ≤ y2) (f_X7_sweep_330 N N y1 rooted kind left_ right_ many bits rows table roots moved row 0) (ix y2 24000 (ifb ((moved y2.toNatClampNeg) = 1) (ix y2 24000 (ix y1 24000 (ix y2 24000 (ifb (((upd kind y1.toNatClampNeg (kind y2.toNatClampNeg)) y2.toNatClampNeg) = 3) (f_X7_sweep_190 (f_X7_sweep_135 N n) N used rooted (upd kind y1.toNatClampNeg (kind y2.toNatClampNeg)) left_ right_ many bits rows table roots moved row y1 y2 y1) (ix y2 24000 (ifb (((upd kind y1.toNatClampNeg (kind y2.toNatClampNeg)) y2.toNatClampNeg) = 4) (f_X7_sweep_190 (f_X7_sweep_135 N n) N used rooted (upd kind y1.toNatClampNeg (kind y2.toNatClampNeg)) left_ right_ many bits rows table roots moved row y1 y2 y1) (ix y2 24000 (f_X7_sweep_210 (f_X7_sweep_135 N n) N used rooted (upd kind y1.toNatClampNeg (kind y2.toNatClampNeg)) left_ right_ many bits rows table roots moved row y1 y2 y1 (left_ y2.toNatClampNeg))))))))) (f_X7_sweep_317 (f_X7_sweep_135 N n) N used rooted kind left_ right_ many bits rows table roots moved row y1 y2)))
def f_X7_sweep_67 (N : Nat) : Nat → Int32 → Int32 → (Nat → Int32) → (Nat → Int32) → (Nat → Int32) → (Nat → Int32) → (Nat → Int32) → (Nat → Int32) → (Nat → Int32) → (Nat → Int32) → (Nat → Int32) → (Nat → Int64) → Int32 → Option ((Int32) × (Nat → Int32) × (Nat → Int32) × (Nat → Int32) × (Nat → Int32) × (Nat → Int32) × (Nat → Int32) × (Nat → Int32) × (Nat → Int32) × (Nat → Int32))
  | 0 => fun _ _ _ _ _ _ _ _ _ _ _ _ _ => none
  | n + 1 => fun used rooted kind left_ right_ many bits rows table roots moved row y1 => ifb (y1 < 0) (f_X7_sweep_135 N N used rooted kind left_ right_ many bits rows table roots moved row 0 0) (ix y1 24000 (ifb ((moved y1.toNatClampNeg) = 1) (ix y1 24000 (ifb ((kind y1.toNatClampNeg) < 3) (f_X7_sweep_125 (f_X7_sweep_67 N n) N used rooted kind left_ right_ many bits rows table roots moved row y1) (ix y1 24000 (ix (right_ y1.toNatClampNeg) 24000 (ix y1 24000 (ifb (5 ≤ (kind y1.toNatClampNeg)) (f_X7_sweep_125 (f_X7_sweep_67 N n) N used rooted kind left_ right_ many bits rows table roots (upd moved (right_ y1.toNatClampNeg).toNatClampNeg 1) row y1) (ix y1 24000 (ix (left_ y1.toNatClampNeg) 24000 (f_X7_sweep_125 (f_X7_sweep_67 N n) N used rooted kind left_ right_ many bits rows table roots (upd (upd moved (right_ y1.toNatClampNeg).toNatClampNeg 1) (left_ y1.toNatClampNeg).toNatClampNeg 1) row y1))))))))) (f_X7_sweep_125 (f_X7_sweep_67 N n) N used rooted kind left_ right_ many bits rows table roots moved row y1)))
def f_X7_sweep_34 (N : Nat) : Nat → Int32 → Int32 → (Nat → Int32) → (Nat → Int32) → (Nat → Int32) → (Nat → Int32) → (Nat → Int32) → (Nat → Int32) → (Nat → Int32) → (Nat → Int32) → (Nat → Int32) → (Nat → Int64) → Int32 → Option ((Int32) × (Nat → Int32) × (Nat → Int32) × (Nat → Int32) × (Nat → Int32) × (Nat → Int32) × (Nat → Int32) × (Nat → Int32) × (Nat → Int32) × (Nat → Int32))
  | 0 => fun _ _ _ _ _ _ _ _ _ _ _ _ _ => none
  | n + 1 => fun used rooted kind left_ right_ many bits rows table roots moved row y1 => ifb (rooted ≤ y1) (f_X7_sweep_67 N N used rooted kind left_ right_ many bits rows table roots moved row (used - 1)) (ix y1 2000 (ix (roots y1.toNatClampNeg) 24000 (f_X7_sweep_34 N n used rooted kind left_ right_ many bits rows table roots (upd moved (roots y1.toNatClampNeg).toNatClampNeg 1) row (y1 + 1))))
def f_X7_sweep_2 (N : Nat) : Nat → Int32 → Int32 → (Nat → Int32) → (Nat → Int32) → (Nat → Int32) → (Nat → Int32) → (Nat → Int32) → (Nat → Int32) → (Nat → Int32) → (Nat → Int32) → (Nat → Int32) → (Nat → Int64) → Int32 → Option ((Int32) × (Nat → Int32) × (Nat → Int32) × (Nat → Int32) × (Nat → Int32) × (Nat → Int32) × (Nat → Int32) × (Nat → Int32) × (Nat → Int32) × (Nat → Int32))
  | 0 => fun _ _ _ _ _ _ _ _ _ _ _ _ _ => none
  | n + 1 => fun used rooted kind left_ right_ many bits rows table roots moved row y1 => ifb (used ≤ y1) (f_X7_sweep_34 N N used rooted kind left_ right_ many bits rows table roots moved row 0) (ifb (2 ≤ y1) (f_X7_sweep_25 (f_X7_sweep_2 N n) N used rooted kind left_ right_ many bits rows table roots moved row y1 y1 0) (f_X7_sweep_25 (f_X7_sweep_2 N n) N used rooted kind left_ right_ many bits rows table roots moved row y1 y1 1))
def f_X7_sweep (N : Nat) (used : Int32) (rooted : Int32) (kind : Nat → Int32) (left_ : Nat → Int32) (right_ : Nat → Int32) (many : Nat → Int32) (bits : Nat → Int32) (rows : Nat → Int32) (table : Nat → Int32) (roots : Nat → Int32) (moved : Nat → Int32) (row : Nat → Int64) : Option ((Int32) × (Nat → Int32) × (Nat → Int32) × (Nat → Int32) × (Nat → Int32) × (Nat → Int32) × (Nat → Int32) × (Nat → Int32) × (Nat → Int32) × (Nat → Int32)) := f_X7_sweep_2 N N used rooted kind left_ right_ many bits rows table roots moved row 0
variable {p : Program} {l : Launch} {e : Env} {s : State} {m : MethodId} {below : List Frame} {meth : Method} {c : Code} {args : Array Value} {x0 : Cond} {D : va_G} {cI cJ cB : ClassId} {sz N : Nat} {ws0 : va_W} {a0 a_text a_out a_above a_below a_sum a_point a_pointRows a_pointSorts a_kind a_left a_right a_many a_bits a_rows a_table a_roots a_moved a_row : Nat} {thrown : Int32} {rooted : Int32} {size : Int32} {outSize : Int32} {points : Int32} {takenOut : Int32} {great : Int32} {at_ : Int32} {fault : Int32} {open_ : Int32} {wrong : Int32} {by_ : Int64} {sort : Int32} {variable_ : Int32} {pointCount : Int32} {row : Nat → Int64} {z : (Int32) × (Nat → Int32) × (Nat → Int32) × (Nat → Int32) × (Nat → Int32) × (Nat → Int32) × (Nat → Int32) × (Nat → Int32) × (Nat → Int32) × (Nat → Int32)}
set_option maxHeartbeats 4000000 in
set_option maxRecDepth 100000 in
theorem w_X7_sweep_25 (CX : Cx p m c cX7_sweep 4 s args x0 RX7 meth none) (hK : va_K D vwCl (ty0 cI cJ cB) s) (hsz : s.heap.size = sz) {K2 : Int32 → Int32 → (Nat → Int32) → (Nat → Int32) → (Nat → Int32) → (Nat → Int32) → (Nat → Int32) → (Nat → Int32) → (Nat → Int32) → (Nat → Int32) → (Nat → Int32) → (Nat → Int64) → Int32 → Option ((Int32) × (Nat → Int32) × (Nat → Int32) × (Nat → Int32) × (Nat → Int32) × (Nat → Int32) × (Nat → Int32) × (Nat → Int32) × (Nat → Int32) × (Nat → Int32))} (hK2 : ∀ (used : Int32) (kind : Nat → Int32) (left_ : Nat → Int32) (right_ : Nat → Int32) (many : Nat → Int32) (bits : Nat → Int32) (rows : Nat → Int32) (table : Nat → Int32) (roots : Nat → Int32) (moved : Nat → Int32) (y1 : Int32) (H : Heap) (locs : List Loc) (ls : Array Slot), K2 used rooted kind left_ right_ many bits rows table roots moved row y1 = some z → va_P D vwCl (ws_X7_sweep cI cJ cB a0 a_text a_out a_above a_below a_sum a_point a_pointRows a_pointSorts a_kind a_left a_right a_many a_bits a_rows a_table a_roots a_moved a_row thrown used rooted size outSize points takenOut great at_ fault open_ wrong by_ sort variable_ pointCount kind left_ right_ many bits rows table roots moved row) H → va_D (va_A ws0 sz) (ws_X7_sweep cI cJ cB a0 a_text a_out a_above a_below a_sum a_point a_pointRows a_pointSorts a_kind a_left a_right a_many a_bits a_rows a_table a_roots a_moved a_row thrown used rooted size outSize points takenOut great at_ fault open_ wrong by_ sort variable_ pointCount kind left_ right_ many bits rows table roots moved row) → va_S (va_A ws0 sz) s.heap H locs → lv_has ls 4 [(0, .ref a0), (1, .int y1)] → W p l e rm_X7_sweep s m args below meth c H locs 0 0 (MQ below (gQ D sz ws0 (ws_X7_sweep cI cJ cB a0 a_text a_out a_above a_below a_sum a_point a_pointRows a_pointSorts a_kind a_left a_right a_many a_bits a_rows a_table a_roots a_moved a_row thrown z.1 rooted size outSize points takenOut great at_ fault open_ wrong by_ sort variable_ pointCount z.2.1 z.2.2.1 z.2.2.2.1 z.2.2.2.2.1 z.2.2.2.2.2.1 z.2.2.2.2.2.2.1 z.2.2.2.2.2.2.2.1 z.2.2.2.2.2.2.2.2.1 z.2.2.2.2.2.2.2.2.2 row) none) args s 0 0 (va_A ws0 sz)) (F0 m 2 ls [])) : ∀ (used : Int32) (kind : Nat → Int32) (left_ : Nat → Int32) (right_ : Nat → Int32) (many : Nat → Int32) (bits : Nat → Int32) (rows : Nat → Int32) (table : Nat → Int32) (roots : Nat → Int32) (moved : Nat → Int32) (y1 : Int32) (s1 : Int32) (s2 : Int32) (H : Heap) (locs : List Loc) (ls : Array Slot), f_X7_sweep_25 K2 N used rooted kind left_ right_ many bits rows table roots moved row y1 s1 s2 = some z → va_P D vwCl (ws_X7_sweep cI cJ cB a0 a_text a_out a_above a_below a_sum a_point a_pointRows a_pointSorts a_kind a_left a_right a_many a_bits a_rows a_table a_roots a_moved a_row thrown used rooted size outSize points takenOut great at_ fault open_ wrong by_ sort variable_ pointCount kind left_ right_ many bits rows table roots moved row) H → va_D (va_A ws0 sz) (ws_X7_sweep cI cJ cB a0 a_text a_out a_above a_below a_sum a_point a_pointRows a_pointSorts a_kind a_left a_right a_many a_bits a_rows a_table a_roots a_moved a_row thrown used rooted size outSize points takenOut great at_ fault open_ wrong by_ sort variable_ pointCount kind left_ right_ many bits rows table roots moved row) → va_S (va_A ws0 sz) s.heap H locs → lv_has ls 4 [(0, .ref a0), (1, .int y1)] → W p l e rm_X7_sweep s m args below meth c H locs 0 0 (MQ below (gQ D sz ws0 (ws_X7_sweep cI cJ cB a0 a_text a_out a_above a_below a_sum a_point a_pointRows a_pointSorts a_kind a_left a_right a_many a_bits a_rows a_table a_roots a_moved a_row thrown z.1 rooted size outSize points takenOut great at_ fault open_ wrong by_ sort variable_ pointCount z.2.1 z.2.2.1 z.2.2.2.1 z.2.2.2.2.1 z.2.2.2.2.2.1 z.2.2.2.2.2.2.1 z.2.2.2.2.2.2.2.1 z.2.2.2.2.2.2.2.2.1 z.2.2.2.2.2.2.2.2.2 row) none) args s 0 0 (va_A ws0 sz)) (F0 m 25 ls [.int s2, .int s1, .ref a_moved]) := by
  obtain ⟨F, hr, hlk, hNw⟩ := id CX
  have hx := F.1
  have hb := F.2.1
  have hown := F.2.2.2.1
  have hA : ∀ q, s.heap.size ≤ q → va_A ws0 sz q := fun q hq => Or.inr (hsz ▸ hq)
  intro used kind left_ right_ many bits rows table roots moved y1 s1 s2 H locs ls h hP hD hS hl
  unfold f_X7_sweep_25 at h
  obtain ⟨hi25, h⟩ := o_ix h
  refine r_iast (wn := (ws_X7_sweep cI cJ cB a0 a_text a_out a_above a_below a_sum a_point a_pointRows a_pointSorts a_kind a_left a_right a_many a_bits a_rows a_table a_roots a_moved a_row thrown used rooted size outSize points takenOut great at_ fault open_ wrong by_ sort variable_ pointCount kind left_ right_ many bits rows table roots (upd moved s1.toNatClampNeg s2) row)) F hK hP hD hS 9 0 hi25 rfl rfl rfl dX7_sweep_25 (fun H locs hP hD hS => ?_)
  refine lv_iinc (v := y1 + 1) (lv' := [(1, .int (y1 + 1)), (0, .ref a0)]) hx hb dX7_sweep_26 hl (k := 1) rfl rfl (by decide) rfl (fun ls hl => ?_)
  refine lv_goto (tgt := 2) hx hb dX7_sweep_29 (by decide) ?_
  exact hK2 used kind left_ right_ many bits rows table roots (upd moved s1.toNatClampNeg s2) (y1 + 1) _ _ _ h hP hD hS (lv_sub hl [1, 0] rfl)
set_option maxHeartbeats 4000000 in
set_option maxRecDepth 100000 in
theorem w_X7_sweep_125 (CX : Cx p m c cX7_sweep 4 s args x0 RX7 meth none) (hK : va_K D vwCl (ty0 cI cJ cB) s) (hsz : s.heap.size = sz) {K67 : Int32 → Int32 → (Nat → Int32) → (Nat → Int32) → (Nat → Int32) → (Nat → Int32) → (Nat → Int32) → (Nat → Int32) → (Nat → Int32) → (Nat → Int32) → (Nat → Int32) → (Nat → Int64) → Int32 → Option ((Int32) × (Nat → Int32) × (Nat → Int32) × (Nat → Int32) × (Nat → Int32) × (Nat → Int32) × (Nat → Int32) × (Nat → Int32) × (Nat → Int32) × (Nat → Int32))} (hK67 : ∀ (used : Int32) (kind : Nat → Int32) (left_ : Nat → Int32) (right_ : Nat → Int32) (many : Nat → Int32) (bits : Nat → Int32) (rows : Nat → Int32) (table : Nat → Int32) (roots : Nat → Int32) (moved : Nat → Int32) (y1 : Int32) (H : Heap) (locs : List Loc) (ls : Array Slot), K67 used rooted kind left_ right_ many bits rows table roots moved row y1 = some z → va_P D vwCl (ws_X7_sweep cI cJ cB a0 a_text a_out a_above a_below a_sum a_point a_pointRows a_pointSorts a_kind a_left a_right a_many a_bits a_rows a_table a_roots a_moved a_row thrown used rooted size outSize points takenOut great at_ fault open_ wrong by_ sort variable_ pointCount kind left_ right_ many bits rows table roots moved row) H → va_D (va_A ws0 sz) (ws_X7_sweep cI cJ cB a0 a_text a_out a_above a_below a_sum a_point a_pointRows a_pointSorts a_kind a_left a_right a_many a_bits a_rows a_table a_roots a_moved a_row thrown used rooted size outSize points takenOut great at_ fault open_ wrong by_ sort variable_ pointCount kind left_ right_ many bits rows table roots moved row) → va_S (va_A ws0 sz) s.heap H locs → lv_has ls 4 [(0, .ref a0), (1, .int y1)] → W p l e rm_X7_sweep s m args below meth c H locs 0 0 (MQ below (gQ D sz ws0 (ws_X7_sweep cI cJ cB a0 a_text a_out a_above a_below a_sum a_point a_pointRows a_pointSorts a_kind a_left a_right a_many a_bits a_rows a_table a_roots a_moved a_row thrown z.1 rooted size outSize points takenOut great at_ fault open_ wrong by_ sort variable_ pointCount z.2.1 z.2.2.1 z.2.2.2.1 z.2.2.2.2.1 z.2.2.2.2.2.1 z.2.2.2.2.2.2.1 z.2.2.2.2.2.2.2.1 z.2.2.2.2.2.2.2.2.1 z.2.2.2.2.2.2.2.2.2 row) none) args s 0 0 (va_A ws0 sz)) (F0 m 67 ls [])) : ∀ (used : Int32) (kind : Nat → Int32) (left_ : Nat → Int32) (right_ : Nat → Int32) (many : Nat → Int32) (bits : Nat → Int32) (rows : Nat → Int32) (table : Nat → Int32) (roots : Nat → Int32) (moved : Nat → Int32) (y1 : Int32) (H : Heap) (locs : List Loc) (ls : Array Slot), f_X7_sweep_125 K67 N used rooted kind left_ right_ many bits rows table roots moved row y1 = some z → va_P D vwCl (ws_X7_sweep cI cJ cB a0 a_text a_out a_above a_below a_sum a_point a_pointRows a_pointSorts a_kind a_left a_right a_many a_bits a_rows a_table a_roots a_moved a_row thrown used rooted size outSize points takenOut great at_ fault open_ wrong by_ sort variable_ pointCount kind left_ right_ many bits rows table roots moved row) H → va_D (va_A ws0 sz) (ws_X7_sweep cI cJ cB a0 a_text a_out a_above a_below a_sum a_point a_pointRows a_pointSorts a_kind a_left a_right a_many a_bits a_rows a_table a_roots a_moved a_row thrown used rooted size outSize points takenOut great at_ fault open_ wrong by_ sort variable_ pointCount kind left_ right_ many bits rows table roots moved row) → va_S (va_A ws0 sz) s.heap H locs → lv_has ls 4 [(0, .ref a0), (1, .int y1)] → W p l e rm_X7_sweep s m args below meth c H locs 0 0 (MQ below (gQ D sz ws0 (ws_X7_sweep cI cJ cB a0 a_text a_out a_above a_below a_sum a_point a_pointRows a_pointSorts a_kind a_left a_right a_many a_bits a_rows a_table a_roots a_moved a_row thrown z.1 rooted size outSize points takenOut great at_ fault open_ wrong by_ sort variable_ pointCount z.2.1 z.2.2.1 z.2.2.2.1 z.2.2.2.2.1 z.2.2.2.2.2.1 z.2.2.2.2.2.2.1 z.2.2.2.2.2.2.2.1 z.2.2.2.2.2.2.2.2.1 z.2.2.2.2.2.2.2.2.2 row) none) args s 0 0 (va_A ws0 sz)) (F0 m 125 ls []) := by
  obtain ⟨F, hr, hlk, hNw⟩ := id CX
  have hx := F.1
  have hb := F.2.1
  have hown := F.2.2.2.1
  have hA : ∀ q, s.heap.size ≤ q → va_A ws0 sz q := fun q hq => Or.inr (hsz ▸ hq)
  intro used kind left_ right_ many bits rows table roots moved y1 H locs ls h hP hD hS hl
  unfold f_X7_sweep_125 at h
  refine lv_iinc (v := y1 + (-1)) (lv' := [(1, .int (y1 + (-1))), (0, .ref a0)]) hx hb dX7_sweep_125 hl (k := 1) rfl rfl (by decide) rfl (fun ls hl => ?_)
  refine lv_goto (tgt := 67) hx hb dX7_sweep_128 (by decide) ?_
  exact hK67 used kind left_ right_ many bits rows table roots moved (y1 + (-1)) _ _ _ h hP hD hS (lv_sub hl [1, 0] rfl)
set_option maxHeartbeats 4000000 in
set_option maxRecDepth 100000 in
theorem w_X7_sweep_317 (CX : Cx p m c cX7_sweep 4 s args x0 RX7 meth none) (hK : va_K D vwCl (ty0 cI cJ cB) s) (hsz : s.heap.size = sz) {K135 : Int32 → Int32 → (Nat → Int32) → (Nat → Int32) → (Nat → Int32) → (Nat → Int32) → (Nat → Int32) → (Nat → Int32) → (Nat → Int32) → (Nat → Int32) → (Nat → Int32) → (Nat → Int64) → Int32 → Int32 → Option ((Int32) × (Nat → Int32) × (Nat → Int32) × (Nat → Int32) × (Nat → Int32) × (Nat → Int32) × (Nat → Int32) × (Nat → Int32) × (Nat → Int32) × (Nat → Int32))} (hK135 : ∀ (used : Int32) (kind : Nat → Int32) (left_ : Nat → Int32) (right_ : Nat → Int32) (many : Nat → Int32) (bits : Nat → Int32) (rows : Nat → Int32) (table : Nat → Int32) (roots : Nat → Int32) (moved : Nat → Int32) (y1 : Int32) (y2 : Int32) (H : Heap) (locs : List Loc) (ls : Array Slot), K135 used rooted kind left_ right_ many bits rows table roots moved row y1 y2 = some z → va_P D vwCl (ws_X7_sweep cI cJ cB a0 a_text a_out a_above a_below a_sum a_point a_pointRows a_pointSorts a_kind a_left a_right a_many a_bits a_rows a_table a_roots a_moved a_row thrown used rooted size outSize points takenOut great at_ fault open_ wrong by_ sort variable_ pointCount kind left_ right_ many bits rows table roots moved row) H → va_D (va_A ws0 sz) (ws_X7_sweep cI cJ cB a0 a_text a_out a_above a_below a_sum a_point a_pointRows a_pointSorts a_kind a_left a_right a_many a_bits a_rows a_table a_roots a_moved a_row thrown used rooted size outSize points takenOut great at_ fault open_ wrong by_ sort variable_ pointCount kind left_ right_ many bits rows table roots moved row) → va_S (va_A ws0 sz) s.heap H locs → lv_has ls 4 [(0, .ref a0), (1, .int y1), (2, .int y2)] → W p l e rm_X7_sweep s m args below meth c H locs 0 0 (MQ below (gQ D sz ws0 (ws_X7_sweep cI cJ cB a0 a_text a_out a_above a_below a_sum a_point a_pointRows a_pointSorts a_kind a_left a_right a_many a_bits a_rows a_table a_roots a_moved a_row thrown z.1 rooted size outSize points takenOut great at_ fault open_ wrong by_ sort variable_ pointCount z.2.1 z.2.2.1 z.2.2.2.1 z.2.2.2.2.1 z.2.2.2.2.2.1 z.2.2.2.2.2.2.1 z.2.2.2.2.2.2.2.1 z.2.2.2.2.2.2.2.2.1 z.2.2.2.2.2.2.2.2.2 row) none) args s 0 0 (va_A ws0 sz)) (F0 m 135 ls [])) : ∀ (used : Int32) (kind : Nat → Int32) (left_ : Nat → Int32) (right_ : Nat → Int32) (many : Nat → Int32) (bits : Nat → Int32) (rows : Nat → Int32) (table : Nat → Int32) (roots : Nat → Int32) (moved : Nat → Int32) (y1 : Int32) (y2 : Int32) (H : Heap) (locs : List Loc) (ls : Array Slot), f_X7_sweep_317 K135 N used rooted kind left_ right_ many bits rows table roots moved row y1 y2 = some z → va_P D vwCl (ws_X7_sweep cI cJ cB a0 a_text a_out a_above a_below a_sum a_point a_pointRows a_pointSorts a_kind a_left a_right a_many a_bits a_rows a_table a_roots a_moved a_row thrown used rooted size outSize points takenOut great at_ fault open_ wrong by_ sort variable_ pointCount kind left_ right_ many bits rows table roots moved row) H → va_D (va_A ws0 sz) (ws_X7_sweep cI cJ cB a0 a_text a_out a_above a_below a_sum a_point a_pointRows a_pointSorts a_kind a_left a_right a_many a_bits a_rows a_table a_roots a_moved a_row thrown used rooted size outSize points takenOut great at_ fault open_ wrong by_ sort variable_ pointCount kind left_ right_ many bits rows table roots moved row) → va_S (va_A ws0 sz) s.heap H locs → lv_has ls 4 [(0, .ref a0), (1, .int y1), (2, .int y2)] → W p l e rm_X7_sweep s m args below meth c H locs 0 0 (MQ below (gQ D sz ws0 (ws_X7_sweep cI cJ cB a0 a_text a_out a_above a_below a_sum a_point a_pointRows a_pointSorts a_kind a_left a_right a_many a_bits a_rows a_table a_roots a_moved a_row thrown z.1 rooted size outSize points takenOut great at_ fault open_ wrong by_ sort variable_ pointCount z.2.1 z.2.2.1 z.2.2.2.1 z.2.2.2.2.1 z.2.2.2.2.2.1 z.2.2.2.2.2.2.1 z.2.2.2.2.2.2.2.1 z.2.2.2.2.2.2.2.2.1 z.2.2.2.2.2.2.2.2.2 row) none) args s 0 0 (va_A ws0 sz)) (F0 m 317 ls []) := by
  obtain ⟨F, hr, hlk, hNw⟩ := id CX
  have hx := F.1
  have hb := F.2.1
  have hown := F.2.2.2.1
  have hA : ∀ q, s.heap.size ≤ q → va_A ws0 sz q := fun q hq => Or.inr (hsz ▸ hq)
  intro used kind left_ right_ many bits rows table roots moved y1 y2 H locs ls h hP hD hS hl
  unfold f_X7_sweep_317 at h
  refine lv_iinc (v := y2 + 1) (lv' := [(2, .int (y2 + 1)), (0, .ref a0), (1, .int y1)]) hx hb dX7_sweep_317 hl (k := 2) rfl rfl (by decide) rfl (fun ls hl => ?_)
  refine lv_goto (tgt := 135) hx hb dX7_sweep_320 (by decide) ?_
  exact hK135 used kind left_ right_ many bits rows table roots moved y1 (y2 + 1) _ _ _ h hP hD hS (lv_sub hl [1, 2, 0] rfl)
set_option maxHeartbeats 4000000 in
set_option maxRecDepth 100000 in
theorem w_X7_sweep_273 (CX : Cx p m c cX7_sweep 4 s args x0 RX7 meth none) (hK : va_K D vwCl (ty0 cI cJ cB) s) (hsz : s.heap.size = sz) {K135 : Int32 → Int32 → (Nat → Int32) → (Nat → Int32) → (Nat → Int32) → (Nat → Int32) → (Nat → Int32) → (Nat → Int32) → (Nat → Int32) → (Nat → Int32) → (Nat → Int32) → (Nat → Int64) → Int32 → Int32 → Option ((Int32) × (Nat → Int32) × (Nat → Int32) × (Nat → Int32) × (Nat → Int32) × (Nat → Int32) × (Nat → Int32) × (Nat → Int32) × (Nat → Int32) × (Nat → Int32))} (hK135 : ∀ (used : Int32) (kind : Nat → Int32) (left_ : Nat → Int32) (right_ : Nat → Int32) (many : Nat → Int32) (bits : Nat → Int32) (rows : Nat → Int32) (table : Nat → Int32) (roots : Nat → Int32) (moved : Nat → Int32) (y1 : Int32) (y2 : Int32) (H : Heap) (locs : List Loc) (ls : Array Slot), K135 used rooted kind left_ right_ many bits rows table roots moved row y1 y2 = some z → va_P D vwCl (ws_X7_sweep cI cJ cB a0 a_text a_out a_above a_below a_sum a_point a_pointRows a_pointSorts a_kind a_left a_right a_many a_bits a_rows a_table a_roots a_moved a_row thrown used rooted size outSize points takenOut great at_ fault open_ wrong by_ sort variable_ pointCount kind left_ right_ many bits rows table roots moved row) H → va_D (va_A ws0 sz) (ws_X7_sweep cI cJ cB a0 a_text a_out a_above a_below a_sum a_point a_pointRows a_pointSorts a_kind a_left a_right a_many a_bits a_rows a_table a_roots a_moved a_row thrown used rooted size outSize points takenOut great at_ fault open_ wrong by_ sort variable_ pointCount kind left_ right_ many bits rows table roots moved row) → va_S (va_A ws0 sz) s.heap H locs → lv_has ls 4 [(0, .ref a0), (1, .int y1), (2, .int y2)] → W p l e rm_X7_sweep s m args below meth c H locs 0 0 (MQ below (gQ D sz ws0 (ws_X7_sweep cI cJ cB a0 a_text a_out a_above a_below a_sum a_point a_pointRows a_pointSorts a_kind a_left a_right a_many a_bits a_rows a_table a_roots a_moved a_row thrown z.1 rooted size outSize points takenOut great at_ fault open_ wrong by_ sort variable_ pointCount z.2.1 z.2.2.1 z.2.2.2.1 z.2.2.2.2.1 z.2.2.2.2.2.1 z.2.2.2.2.2.2.1 z.2.2.2.2.2.2.2.1 z.2.2.2.2.2.2.2.2.1 z.2.2.2.2.2.2.2.2.2 row) none) args s 0 0 (va_A ws0 sz)) (F0 m 135 ls [])) : ∀ (n : Nat), ∀ (used : Int32) (kind : Nat → Int32) (left_ : Nat → Int32) (right_ : Nat → Int32) (many : Nat → Int32) (bits : Nat → Int32) (rows : Nat → Int32) (table : Nat → Int32) (roots : Nat → Int32) (moved : Nat → Int32) (y1 : Int32) (y2 : Int32) (y3 : Int32) (H : Heap) (locs : List Loc) (ls : Array Slot), f_X7_sweep_273 K135 N n used rooted kind left_ right_ many bits rows table roots moved row y1 y2 y3 = some z → va_P D vwCl (ws_X7_sweep cI cJ cB a0 a_text a_out a_above a_below a_sum a_point a_pointRows a_pointSorts a_kind a_left a_right a_many a_bits a_rows a_table a_roots a_moved a_row thrown used rooted size outSize points takenOut great at_ fault open_ wrong by_ sort variable_ pointCount kind left_ right_ many bits rows table roots moved row) H → va_D (va_A ws0 sz) (ws_X7_sweep cI cJ cB a0 a_text a_out a_above a_below a_sum a_point a_pointRows a_pointSorts a_kind a_left a_right a_many a_bits a_rows a_table a_roots a_moved a_row thrown used rooted size outSize points takenOut great at_ fault open_ wrong by_ sort variable_ pointCount kind left_ right_ many bits rows table roots moved row) → va_S (va_A ws0 sz) s.heap H locs → lv_has ls 4 [(0, .ref a0), (1, .int y1), (2, .int y2), (3, .int y3)] → W p l e rm_X7_sweep s m args below meth c H locs 0 0 (MQ below (gQ D sz ws0 (ws_X7_sweep cI cJ cB a0 a_text a_out a_above a_below a_sum a_point a_pointRows a_pointSorts a_kind a_left a_right a_many a_bits a_rows a_table a_roots a_moved a_row thrown z.1 rooted size outSize points takenOut great at_ fault open_ wrong by_ sort variable_ pointCount z.2.1 z.2.2.1 z.2.2.2.1 z.2.2.2.2.1 z.2.2.2.2.2.1 z.2.2.2.2.2.2.1 z.2.2.2.2.2.2.2.1 z.2.2.2.2.2.2.2.2.1 z.2.2.2.2.2.2.2.2.2 row) none) args s 0 0 (va_A ws0 sz)) (F0 m 273 ls []) := by
  obtain ⟨F, hr, hlk, hNw⟩ := id CX
  have hx := F.1
  have hb := F.2.1
  have hown := F.2.2.2.1
  have hA : ∀ q, s.heap.size ≤ q → va_A ws0 sz q := fun q hq => Or.inr (hsz ▸ hq)
  intro n
  induction n with
  | zero =>
    intro used kind left_ right_ many bits rows table roots moved y1 y2 y3 H locs ls h
    cases h
  | succ n ih =>
    intro used kind left_ right_ many bits rows table roots moved y1 y2 y3 H locs ls h hP hD hS hl
    unfold f_X7_sweep_273 at h
    refine lv_iload_n hx hb dX7_sweep_273 rfl (lv_at hl 3 rfl) ?_
    refine lv_bipush (v := 9) hx hb dX7_sweep_274 (by decide) ?_
    refine lv_icmp_ge (tgt := 307) hx hb dX7_sweep_276 (by decide) (fun c276 => ?_) (fun c276 => ?_)
    · have h := o_t c276 h
      refine lv_aload_n hx hb dX7_sweep_307 rfl (lv_at hl 0 rfl) ?_
      refine r_get F hK hP 0 11 rfl inW_X7 wm_1103 rfl (by decide) rfl dX7_sweep_308 ?_
      refine lv_iload_n hx hb dX7_sweep_311 rfl (lv_at hl 2 rfl) ?_
      refine lv_iload_n hx hb dX7_sweep_312 rfl (lv_at hl 1 rfl) ?_
      obtain ⟨hi313, h⟩ := o_ix h
      refine r_iast (wn := (ws_X7_sweep cI cJ cB a0 a_text a_out a_above a_below a_sum a_point a_pointRows a_pointSorts a_kind a_left a_right a_many a_bits a_rows a_table a_roots a_moved a_row thrown used rooted size outSize points takenOut great at_ fault open_ wrong by_ sort variable_ pointCount kind left_ right_ many bits rows table roots (upd moved y2.toNatClampNeg y1) row)) F hK hP hD hS 9 0 hi313 rfl rfl rfl dX7_sweep_313 (fun H locs hP hD hS => ?_)
      refine lv_iinc (v := y1 + 1) (lv' := [(1, .int (y1 + 1)), (0, .ref a0), (2, .int y2), (3, .int y3)]) hx hb dX7_sweep_314 hl (k := 1) rfl rfl (by decide) rfl (fun ls hl => ?_)
      exact w_X7_sweep_317 CX hK hsz (hK135 := hK135) used kind left_ right_ many bits rows table roots (upd moved y2.toNatClampNeg y1) (y1 + 1) y2 _ _ _ h hP hD hS (lv_sub hl [1, 0, 2] rfl)
    · have h := o_f c276 h
      refine lv_aload_n hx hb dX7_sweep_279 rfl (lv_at hl 0 rfl) ?_
      refine r_get F hK hP 0 6 rfl inW_X7 wm_1098 rfl (by decide) rfl dX7_sweep_280 ?_
      refine lv_bipush (v := 9) hx hb dX7_sweep_283 (by decide) ?_
      refine lv_iload_n hx hb dX7_sweep_285 rfl (lv_at hl 1 rfl) ?_
      refine lv_imul hx hb dX7_sweep_286 ?_
      refine lv_iload_n hx hb dX7_sweep_287 rfl (lv_at hl 3 rfl) ?_
      refine lv_iadd hx hb dX7_sweep_288 ?_
      refine lv_aload_n hx hb dX7_sweep_289 rfl (lv_at hl 0 rfl) ?_
      refine r_get F hK hP 0 6 rfl inW_X7 wm_1098 rfl (by decide) rfl dX7_sweep_290 ?_
      refine lv_bipush (v := 9) hx hb dX7_sweep_293 (by decide) ?_
      refine lv_iload_n hx hb dX7_sweep_295 rfl (lv_at hl 2 rfl) ?_
      refine lv_imul hx hb dX7_sweep_296 ?_
      refine lv_iload_n hx hb dX7_sweep_297 rfl (lv_at hl 3 rfl) ?_
      refine lv_iadd hx hb dX7_sweep_298 ?_
      obtain ⟨hi299, h⟩ := o_ix h
      refine va_iald hx hb hK hP 6 0 rfl rfl hi299 dX7_sweep_299 ?_
      obtain ⟨hi300, h⟩ := o_ix h
      refine r_iast (wn := (ws_X7_sweep cI cJ cB a0 a_text a_out a_above a_below a_sum a_point a_pointRows a_pointSorts a_kind a_left a_right a_many a_bits a_rows a_table a_roots a_moved a_row thrown used rooted size outSize points takenOut great at_ fault open_ wrong by_ sort variable_ pointCount kind left_ right_ many bits (upd rows ((9 * y1) + y3).toNatClampNeg (rows ((9 * y2) + y3).toNatClampNeg)) table roots moved row)) F hK hP hD hS 6 0 hi300 rfl rfl rfl dX7_sweep_300 (fun H locs hP hD hS => ?_)
      refine lv_iinc (v := y3 + 1) (lv' := [(3, .int (y3 + 1)), (0, .ref a0), (1, .int y1), (2, .int y2)]) hx hb dX7_sweep_301 hl (k := 3) rfl rfl (by decide) rfl (fun ls hl => ?_)
      refine lv_goto (tgt := 273) hx hb dX7_sweep_304 (by decide) ?_
      exact ih used kind left_ right_ many bits (upd rows ((9 * y1) + y3).toNatClampNeg (rows ((9 * y2) + y3).toNatClampNeg)) table roots moved y1 y2 (y3 + 1) _ _ _ h hP hD hS (lv_sub hl [1, 2, 3, 0] rfl)
set_option maxHeartbeats 4000000 in
set_option maxRecDepth 100000 in
theorem w_X7_sweep_246 (CX : Cx p m c cX7_sweep 4 s args x0 RX7 meth none) (hK : va_K D vwCl (ty0 cI cJ cB) s) (hsz : s.heap.size = sz) {K135 : Int32 → Int32 → (Nat → Int32) → (Nat → Int32) → (Nat → Int32) → (Nat → Int32) → (Nat → Int32) → (Nat → Int32) → (Nat → Int32) → (Nat → Int32) → (Nat → Int32) → (Nat → Int64) → Int32 → Int32 → Option ((Int32) × (Nat → Int32) × (Nat → Int32) × (Nat → Int32) × (Nat → Int32) × (Nat → Int32) × (Nat → Int32) × (Nat → Int32) × (Nat → Int32) × (Nat → Int32))} (hK135 : ∀ (used : Int32) (kind : Nat → Int32) (left_ : Nat → Int32) (right_ : Nat → Int32) (many : Nat → Int32) (bits : Nat → Int32) (rows : Nat → Int32) (table : Nat → Int32) (roots : Nat → Int32) (moved : Nat → Int32) (y1 : Int32) (y2 : Int32) (H : Heap) (locs : List Loc) (ls : Array Slot), K135 used rooted kind left_ right_ many bits rows table roots moved row y1 y2 = some z → va_P D vwCl (ws_X7_sweep cI cJ cB a0 a_text a_out a_above a_below a_sum a_point a_pointRows a_pointSorts a_kind a_left a_right a_many a_bits a_rows a_table a_roots a_moved a_row thrown used rooted size outSize points takenOut great at_ fault open_ wrong by_ sort variable_ pointCount kind left_ right_ many bits rows table roots moved row) H → va_D (va_A ws0 sz) (ws_X7_sweep cI cJ cB a0 a_text a_out a_above a_below a_sum a_point a_pointRows a_pointSorts a_kind a_left a_right a_many a_bits a_rows a_table a_roots a_moved a_row thrown used rooted size outSize points takenOut great at_ fault open_ wrong by_ sort variable_ pointCount kind left_ right_ many bits rows table roots moved row) → va_S (va_A ws0 sz) s.heap H locs → lv_has ls 4 [(0, .ref a0), (1, .int y1), (2, .int y2)] → W p l e rm_X7_sweep s m args below meth c H locs 0 0 (MQ below (gQ D sz ws0 (ws_X7_sweep cI cJ cB a0 a_text a_out a_above a_below a_sum a_point a_pointRows a_pointSorts a_kind a_left a_right a_many a_bits a_rows a_table a_roots a_moved a_row thrown z.1 rooted size outSize points takenOut great at_ fault open_ wrong by_ sort variable_ pointCount z.2.1 z.2.2.1 z.2.2.2.1 z.2.2.2.2.1 z.2.2.2.2.2.1 z.2.2.2.2.2.2.1 z.2.2.2.2.2.2.2.1 z.2.2.2.2.2.2.2.2.1 z.2.2.2.2.2.2.2.2.2 row) none) args s 0 0 (va_A ws0 sz)) (F0 m 135 ls [])) : ∀ (used : Int32) (kind : Nat → Int32) (left_ : Nat → Int32) (right_ : Nat → Int32) (many : Nat → Int32) (bits : Nat → Int32) (rows : Nat → Int32) (table : Nat → Int32) (roots : Nat → Int32) (moved : Nat → Int32) (y1 : Int32) (y2 : Int32) (s1 : Int32) (s2 : Int32) (H : Heap) (locs : List Loc) (ls : Array Slot), f_X7_sweep_246 K135 N used rooted kind left_ right_ many bits rows table roots moved row y1 y2 s1 s2 = some z → va_P D vwCl (ws_X7_sweep cI cJ cB a0 a_text a_out a_above a_below a_sum a_point a_pointRows a_pointSorts a_kind a_left a_right a_many a_bits a_rows a_table a_roots a_moved a_row thrown used rooted size outSize points takenOut great at_ fault open_ wrong by_ sort variable_ pointCount kind left_ right_ many bits rows table roots moved row) H → va_D (va_A ws0 sz) (ws_X7_sweep cI cJ cB a0 a_text a_out a_above a_below a_sum a_point a_pointRows a_pointSorts a_kind a_left a_right a_many a_bits a_rows a_table a_roots a_moved a_row thrown used rooted size outSize points takenOut great at_ fault open_ wrong by_ sort variable_ pointCount kind left_ right_ many bits rows table roots moved row) → va_S (va_A ws0 sz) s.heap H locs → lv_has ls 4 [(0, .ref a0), (1, .int y1), (2, .int y2)] → W p l e rm_X7_sweep s m args below meth c H locs 0 0 (MQ below (gQ D sz ws0 (ws_X7_sweep cI cJ cB a0 a_text a_out a_above a_below a_sum a_point a_pointRows a_pointSorts a_kind a_left a_right a_many a_bits a_rows a_table a_roots a_moved a_row thrown z.1 rooted size outSize points takenOut great at_ fault open_ wrong by_ sort variable_ pointCount z.2.1 z.2.2.1 z.2.2.2.1 z.2.2.2.2.1 z.2.2.2.2.2.1 z.2.2.2.2.2.2.1 z.2.2.2.2.2.2.2.1 z.2.2.2.2.2.2.2.2.1 z.2.2.2.2.2.2.2.2.2 row) none) args s 0 0 (va_A ws0 sz)) (F0 m 246 ls [.int s2, .int s1, .ref a_right]) := by
  obtain ⟨F, hr, hlk, hNw⟩ := id CX
  have hx := F.1
  have hb := F.2.1
  have hown := F.2.2.2.1
  have hA : ∀ q, s.heap.size ≤ q → va_A ws0 sz q := fun q hq => Or.inr (hsz ▸ hq)
  intro used kind left_ right_ many bits rows table roots moved y1 y2 s1 s2 H locs ls h hP hD hS hl
  unfold f_X7_sweep_246 at h
  obtain ⟨hi246, h⟩ := o_ix h
  refine r_iast (wn := (ws_X7_sweep cI cJ cB a0 a_text a_out a_above a_below a_sum a_point a_pointRows a_pointSorts a_kind a_left a_right a_many a_bits a_rows a_table a_roots a_moved a_row thrown used rooted size outSize points takenOut great at_ fault open_ wrong by_ sort variable_ pointCount kind left_ (upd right_ s1.toNatClampNeg s2) many bits rows table roots moved row)) F hK hP hD hS 3 0 hi246 rfl rfl rfl dX7_sweep_246 (fun H locs hP hD hS => ?_)
  refine lv_aload_n hx hb dX7_sweep_247 rfl (lv_at hl 0 rfl) ?_
  refine r_get F hK hP 0 4 rfl inW_X7 wm_1096 rfl (by decide) rfl dX7_sweep_248 ?_
  refine lv_iload_n hx hb dX7_sweep_251 rfl (lv_at hl 1 rfl) ?_
  refine lv_aload_n hx hb dX7_sweep_252 rfl (lv_at hl 0 rfl) ?_
  refine r_get F hK hP 0 4 rfl inW_X7 wm_1096 rfl (by decide) rfl dX7_sweep_253 ?_
  refine lv_iload_n hx hb dX7_sweep_256 rfl (lv_at hl 2 rfl) ?_
  obtain ⟨hi257, h⟩ := o_ix h
  refine va_iald hx hb hK hP 4 0 rfl rfl hi257 dX7_sweep_257 ?_
  obtain ⟨hi258, h⟩ := o_ix h
  refine r_iast (wn := (ws_X7_sweep cI cJ cB a0 a_text a_out a_above a_below a_sum a_point a_pointRows a_pointSorts a_kind a_left a_right a_many a_bits a_rows a_table a_roots a_moved a_row thrown used rooted size outSize points takenOut great at_ fault open_ wrong by_ sort variable_ pointCount kind left_ (upd right_ s1.toNatClampNeg s2) (upd many y1.toNatClampNeg (many y2.toNatClampNeg)) bits rows table roots moved row)) F hK hP hD hS 4 0 hi258 rfl rfl rfl dX7_sweep_258 (fun H locs hP hD hS => ?_)
  refine lv_aload_n hx hb dX7_sweep_259 rfl (lv_at hl 0 rfl) ?_
  refine r_get F hK hP 0 5 rfl inW_X7 wm_1097 rfl (by decide) rfl dX7_sweep_260 ?_
  refine lv_iload_n hx hb dX7_sweep_263 rfl (lv_at hl 1 rfl) ?_
  refine lv_aload_n hx hb dX7_sweep_264 rfl (lv_at hl 0 rfl) ?_
  refine r_get F hK hP 0 5 rfl inW_X7 wm_1097 rfl (by decide) rfl dX7_sweep_265 ?_
  refine lv_iload_n hx hb dX7_sweep_268 rfl (lv_at hl 2 rfl) ?_
  obtain ⟨hi269, h⟩ := o_ix h
  refine va_iald hx hb hK hP 5 0 rfl rfl hi269 dX7_sweep_269 ?_
  obtain ⟨hi270, h⟩ := o_ix h
  refine r_iast (wn := (ws_X7_sweep cI cJ cB a0 a_text a_out a_above a_below a_sum a_point a_pointRows a_pointSorts a_kind a_left a_right a_many a_bits a_rows a_table a_roots a_moved a_row thrown used rooted size outSize points takenOut great at_ fault open_ wrong by_ sort variable_ pointCount kind left_ (upd right_ s1.toNatClampNeg s2) (upd many y1.toNatClampNeg (many y2.toNatClampNeg)) (upd bits y1.toNatClampNeg (bits y2.toNatClampNeg)) rows table roots moved row)) F hK hP hD hS 5 0 hi270 rfl rfl rfl dX7_sweep_270 (fun H locs hP hD hS => ?_)
  refine lv_iconst (v := 0) hx hb dX7_sweep_271 (by decide) ?_
  refine lv_istore_n (lv' := [(3, .int 0), (0, .ref a0), (1, .int y1), (2, .int y2)]) hx hb dX7_sweep_272 rfl hl (by decide) rfl (fun ls hl => ?_)
  exact w_X7_sweep_273 CX hK hsz (hK135 := hK135) N used kind left_ (upd right_ s1.toNatClampNeg s2) (upd many y1.toNatClampNeg (many y2.toNatClampNeg)) (upd bits y1.toNatClampNeg (bits y2.toNatClampNeg)) rows table roots moved y1 y2 0 _ _ _ h hP hD hS (lv_sub hl [1, 2, 3, 0] rfl)
set_option maxHeartbeats 4000000 in
set_option maxRecDepth 100000 in
theorem w_X7_sweep_210 (CX : Cx p m c cX7_sweep 4 s args x0 RX7 meth none) (hK : va_K D vwCl (ty0 cI cJ cB) s) (hsz : s.heap.size = sz) {K135 : Int32 → Int32 → (Nat → Int32) → (Nat → Int32) → (Nat → Int32) → (Nat → Int32) → (Nat → Int32) → (Nat → Int32) → (Nat → Int32) → (Nat → Int32) → (Nat → Int32) → (Nat → Int64) → Int32 → Int32 → Option ((Int32) × (Nat → Int32) × (Nat → Int32) × (Nat → Int32) × (Nat → Int32) × (Nat → Int32) × (Nat → Int32) × (Nat → Int32) × (Nat → Int32) × (Nat → Int32))} (hK135 : ∀ (used : Int32) (kind : Nat → Int32) (left_ : Nat → Int32) (right_ : Nat → Int32) (many : Nat → Int32) (bits : Nat → Int32) (rows : Nat → Int32) (table : Nat → Int32) (roots : Nat → Int32) (moved : Nat → Int32) (y1 : Int32) (y2 : Int32) (H : Heap) (locs : List Loc) (ls : Array Slot), K135 used rooted kind left_ right_ many bits rows table roots moved row y1 y2 = some z → va_P D vwCl (ws_X7_sweep cI cJ cB a0 a_text a_out a_above a_below a_sum a_point a_pointRows a_pointSorts a_kind a_left a_right a_many a_bits a_rows a_table a_roots a_moved a_row thrown used rooted size outSize points takenOut great at_ fault open_ wrong by_ sort variable_ pointCount kind left_ right_ many bits rows table roots moved row) H → va_D (va_A ws0 sz) (ws_X7_sweep cI cJ cB a0 a_text a_out a_above a_below a_sum a_point a_pointRows a_pointSorts a_kind a_left a_right a_many a_bits a_rows a_table a_roots a_moved a_row thrown used rooted size outSize points takenOut great at_ fault open_ wrong by_ sort variable_ pointCount kind left_ right_ many bits rows table roots moved row) → va_S (va_A ws0 sz) s.heap H locs → lv_has ls 4 [(0, .ref a0), (1, .int y1), (2, .int y2)] → W p l e rm_X7_sweep s m args below meth c H locs 0 0 (MQ below (gQ D sz ws0 (ws_X7_sweep cI cJ cB a0 a_text a_out a_above a_below a_sum a_point a_pointRows a_pointSorts a_kind a_left a_right a_many a_bits a_rows a_table a_roots a_moved a_row thrown z.1 rooted size outSize points takenOut great at_ fault open_ wrong by_ sort variable_ pointCount z.2.1 z.2.2.1 z.2.2.2.1 z.2.2.2.2.1 z.2.2.2.2.2.1 z.2.2.2.2.2.2.1 z.2.2.2.2.2.2.2.1 z.2.2.2.2.2.2.2.2.1 z.2.2.2.2.2.2.2.2.2 row) none) args s 0 0 (va_A ws0 sz)) (F0 m 135 ls [])) : ∀ (used : Int32) (kind : Nat → Int32) (left_ : Nat → Int32) (right_ : Nat → Int32) (many : Nat → Int32) (bits : Nat → Int32) (rows : Nat → Int32) (table : Nat → Int32) (roots : Nat → Int32) (moved : Nat → Int32) (y1 : Int32) (y2 : Int32) (s1 : Int32) (s2 : Int32) (H : Heap) (locs : List Loc) (ls : Array Slot), f_X7_sweep_210 K135 N used rooted kind left_ right_ many bits rows table roots moved row y1 y2 s1 s2 = some z → va_P D vwCl (ws_X7_sweep cI cJ cB a0 a_text a_out a_above a_below a_sum a_point a_pointRows a_pointSorts a_kind a_left a_right a_many a_bits a_rows a_table a_roots a_moved a_row thrown used rooted size outSize points takenOut great at_ fault open_ wrong by_ sort variable_ pointCount kind left_ right_ many bits rows table roots moved row) H → va_D (va_A ws0 sz) (ws_X7_sweep cI cJ cB a0 a_text a_out a_above a_below a_sum a_point a_pointRows a_pointSorts a_kind a_left a_right a_many a_bits a_rows a_table a_roots a_moved a_row thrown used rooted size outSize points takenOut great at_ fault open_ wrong by_ sort variable_ pointCount kind left_ right_ many bits rows table roots moved row) → va_S (va_A ws0 sz) s.heap H locs → lv_has ls 4 [(0, .ref a0), (1, .int y1), (2, .int y2)] → W p l e rm_X7_sweep s m args below meth c H locs 0 0 (MQ below (gQ D sz ws0 (ws_X7_sweep cI cJ cB a0 a_text a_out a_above a_below a_sum a_point a_pointRows a_pointSorts a_kind a_left a_right a_many a_bits a_rows a_table a_roots a_moved a_row thrown z.1 rooted size outSize points takenOut great at_ fault open_ wrong by_ sort variable_ pointCount z.2.1 z.2.2.1 z.2.2.2.1 z.2.2.2.2.1 z.2.2.2.2.2.1 z.2.2.2.2.2.2.1 z.2.2.2.2.2.2.2.1 z.2.2.2.2.2.2.2.2.1 z.2.2.2.2.2.2.2.2.2 row) none) args s 0 0 (va_A ws0 sz)) (F0 m 210 ls [.int s2, .int s1, .ref a_left]) := by
  obtain ⟨F, hr, hlk, hNw⟩ := id CX
  have hx := F.1
  have hb := F.2.1
  have hown := F.2.2.2.1
  have hA : ∀ q, s.heap.size ≤ q → va_A ws0 sz q := fun q hq => Or.inr (hsz ▸ hq)
  intro used kind left_ right_ many bits rows table roots moved y1 y2 s1 s2 H locs ls h hP hD hS hl
  unfold f_X7_sweep_210 at h
  obtain ⟨hi210, h⟩ := o_ix h
  refine r_iast (wn := (ws_X7_sweep cI cJ cB a0 a_text a_out a_above a_below a_sum a_point a_pointRows a_pointSorts a_kind a_left a_right a_many a_bits a_rows a_table a_roots a_moved a_row thrown used rooted size outSize points takenOut great at_ fault open_ wrong by_ sort variable_ pointCount kind (upd left_ s1.toNatClampNeg s2) right_ many bits rows table roots moved row)) F hK hP hD hS 2 0 hi210 rfl rfl rfl dX7_sweep_210 (fun H locs hP hD hS => ?_)
  refine lv_aload_n hx hb dX7_sweep_211 rfl (lv_at hl 0 rfl) ?_
  refine r_get F hK hP 0 3 rfl inW_X7 wm_1095 rfl (by decide) rfl dX7_sweep_212 ?_
  refine lv_iload_n hx hb dX7_sweep_215 rfl (lv_at hl 1 rfl) ?_
  refine lv_aload_n hx hb dX7_sweep_216 rfl (lv_at hl 0 rfl) ?_
  refine r_get F hK hP 0 1 rfl inW_X7 wm_1093 rfl (by decide) rfl dX7_sweep_217 ?_
  refine lv_iload_n hx hb dX7_sweep_220 rfl (lv_at hl 2 rfl) ?_
  obtain ⟨hi221, h⟩ := o_ix h
  refine va_iald hx hb hK hP 1 0 rfl rfl hi221 dX7_sweep_221 ?_
  refine lv_iconst (v := 3) hx hb dX7_sweep_222 (by decide) ?_
  refine lv_icmp_lt (tgt := 240) hx hb dX7_sweep_223 (by decide) (fun c223 => ?_) (fun c223 => ?_)
  · have h := o_t c223 h
    refine lv_aload_n hx hb dX7_sweep_240 rfl (lv_at hl 0 rfl) ?_
    refine r_get F hK hP 0 3 rfl inW_X7 wm_1095 rfl (by decide) rfl dX7_sweep_241 ?_
    refine lv_iload_n hx hb dX7_sweep_244 rfl (lv_at hl 2 rfl) ?_
    obtain ⟨hi245, h⟩ := o_ix h
    refine va_iald hx hb hK hP 3 0 rfl rfl hi245 dX7_sweep_245 ?_
    exact w_X7_sweep_246 CX hK hsz (hK135 := hK135) used kind (upd left_ s1.toNatClampNeg s2) right_ many bits rows table roots moved y1 y2 y1 (right_ y2.toNatClampNeg) _ _ _ h hP hD hS (lv_sub hl [0, 1, 2] rfl)
  · have h := o_f c223 h
    refine lv_aload_n hx hb dX7_sweep_226 rfl (lv_at hl 0 rfl) ?_
    refine r_get F hK hP 0 11 rfl inW_X7 wm_1103 rfl (by decide) rfl dX7_sweep_227 ?_
    refine lv_aload_n hx hb dX7_sweep_230 rfl (lv_at hl 0 rfl) ?_
    refine r_get F hK hP 0 3 rfl inW_X7 wm_1095 rfl (by decide) rfl dX7_sweep_231 ?_
    refine lv_iload_n hx hb dX7_sweep_234 rfl (lv_at hl 2 rfl) ?_
    obtain ⟨hi235, h⟩ := o_ix h
    refine va_iald hx hb hK hP 3 0 rfl rfl hi235 dX7_sweep_235 ?_
    obtain ⟨hi236, h⟩ := o_ix h
    refine va_iald hx hb hK hP 9 0 rfl rfl hi236 dX7_sweep_236 ?_
    refine lv_goto (tgt := 246) hx hb dX7_sweep_237 (by decide) ?_
    exact w_X7_sweep_246 CX hK hsz (hK135 := hK135) used kind (upd left_ s1.toNatClampNeg s2) right_ many bits rows table roots moved y1 y2 y1 (moved (right_ y2.toNatClampNeg).toNatClampNeg) _ _ _ h hP hD hS (lv_sub hl [0, 1, 2] rfl)
set_option maxHeartbeats 4000000 in
set_option maxRecDepth 100000 in
theorem w_X7_sweep_190 (CX : Cx p m c cX7_sweep 4 s args x0 RX7 meth none) (hK : va_K D vwCl (ty0 cI cJ cB) s) (hsz : s.heap.size = sz) {K135 : Int32 → Int32 → (Nat → Int32) → (Nat → Int32) → (Nat → Int32) → (Nat → Int32) → (Nat → Int32) → (Nat → Int32) → (Nat → Int32) → (Nat → Int32) → (Nat → Int32) → (Nat → Int64) → Int32 → Int32 → Option ((Int32) × (Nat → Int32) × (Nat → Int32) × (Nat → Int32) × (Nat → Int32) × (Nat → Int32) × (Nat → Int32) × (Nat → Int32) × (Nat → Int32) × (Nat → Int32))} (hK135 : ∀ (used : Int32) (kind : Nat → Int32) (left_ : Nat → Int32) (right_ : Nat → Int32) (many : Nat → Int32) (bits : Nat → Int32) (rows : Nat → Int32) (table : Nat → Int32) (roots : Nat → Int32) (moved : Nat → Int32) (y1 : Int32) (y2 : Int32) (H : Heap) (locs : List Loc) (ls : Array Slot), K135 used rooted kind left_ right_ many bits rows table roots moved row y1 y2 = some z → va_P D vwCl (ws_X7_sweep cI cJ cB a0 a_text a_out a_above a_below a_sum a_point a_pointRows a_pointSorts a_kind a_left a_right a_many a_bits a_rows a_table a_roots a_moved a_row thrown used rooted size outSize points takenOut great at_ fault open_ wrong by_ sort variable_ pointCount kind left_ right_ many bits rows table roots moved row) H → va_D (va_A ws0 sz) (ws_X7_sweep cI cJ cB a0 a_text a_out a_above a_below a_sum a_point a_pointRows a_pointSorts a_kind a_left a_right a_many a_bits a_rows a_table a_roots a_moved a_row thrown used rooted size outSize points takenOut great at_ fault open_ wrong by_ sort variable_ pointCount kind left_ right_ many bits rows table roots moved row) → va_S (va_A ws0 sz) s.heap H locs → lv_has ls 4 [(0, .ref a0), (1, .int y1), (2, .int y2)] → W p l e rm_X7_sweep s m args below meth c H locs 0 0 (MQ below (gQ D sz ws0 (ws_X7_sweep cI cJ cB a0 a_text a_out a_above a_below a_sum a_point a_pointRows a_pointSorts a_kind a_left a_right a_many a_bits a_rows a_table a_roots a_moved a_row thrown z.1 rooted size outSize points takenOut great at_ fault open_ wrong by_ sort variable_ pointCount z.2.1 z.2.2.1 z.2.2.2.1 z.2.2.2.2.1 z.2.2.2.2.2.1 z.2.2.2.2.2.2.1 z.2.2.2.2.2.2.2.1 z.2.2.2.2.2.2.2.2.1 z.2.2.2.2.2.2.2.2.2 row) none) args s 0 0 (va_A ws0 sz)) (F0 m 135 ls [])) : ∀ (used : Int32) (kind : Nat → Int32) (left_ : Nat → Int32) (right_ : Nat → Int32) (many : Nat → Int32) (bits : Nat → Int32) (rows : Nat → Int32) (table : Nat → Int32) (roots : Nat → Int32) (moved : Nat → Int32) (y1 : Int32) (y2 : Int32) (s1 : Int32) (H : Heap) (locs : List Loc) (ls : Array Slot), f_X7_sweep_190 K135 N used rooted kind left_ right_ many bits rows table roots moved row y1 y2 s1 = some z → va_P D vwCl (ws_X7_sweep cI cJ cB a0 a_text a_out a_above a_below a_sum a_point a_pointRows a_pointSorts a_kind a_left a_right a_many a_bits a_rows a_table a_roots a_moved a_row thrown used rooted size outSize points takenOut great at_ fault open_ wrong by_ sort variable_ pointCount kind left_ right_ many bits rows table roots moved row) H → va_D (va_A ws0 sz) (ws_X7_sweep cI cJ cB a0 a_text a_out a_above a_below a_sum a_point a_pointRows a_pointSorts a_kind a_left a_right a_many a_bits a_rows a_table a_roots a_moved a_row thrown used rooted size outSize points takenOut great at_ fault open_ wrong by_ sort variable_ pointCount kind left_ right_ many bits rows table roots moved row) → va_S (va_A ws0 sz) s.heap H locs → lv_has ls 4 [(0, .ref a0), (1, .int y1), (2, .int y2)] → W p l e rm_X7_sweep s m args below meth c H locs 0 0 (MQ below (gQ D sz ws0 (ws_X7_sweep cI cJ cB a0 a_text a_out a_above a_below a_sum a_point a_pointRows a_pointSorts a_kind a_left a_right a_many a_bits a_rows a_table a_roots a_moved a_row thrown z.1 rooted size outSize points takenOut great at_ fault open_ wrong by_ sort variable_ pointCount z.2.1 z.2.2.1 z.2.2.2.1 z.2.2.2.2.1 z.2.2.2.2.2.1 z.2.2.2.2.2.2.1 z.2.2.2.2.2.2.2.1 z.2.2.2.2.2.2.2.2.1 z.2.2.2.2.2.2.2.2.2 row) none) args s 0 0 (va_A ws0 sz)) (F0 m 190 ls [.int s1, .ref a_left]) := by
  obtain ⟨F, hr, hlk, hNw⟩ := id CX
  have hx := F.1
  have hb := F.2.1
  have hown := F.2.2.2.1
  have hA : ∀ q, s.heap.size ≤ q → va_A ws0 sz q := fun q hq => Or.inr (hsz ▸ hq)
  intro used kind left_ right_ many bits rows table roots moved y1 y2 s1 H locs ls h hP hD hS hl
  unfold f_X7_sweep_190 at h
  refine lv_aload_n hx hb dX7_sweep_190 rfl (lv_at hl 0 rfl) ?_
  refine r_get F hK hP 0 11 rfl inW_X7 wm_1103 rfl (by decide) rfl dX7_sweep_191 ?_
  refine lv_aload_n hx hb dX7_sweep_194 rfl (lv_at hl 0 rfl) ?_
  refine r_get F hK hP 0 2 rfl inW_X7 wm_1094 rfl (by decide) rfl dX7_sweep_195 ?_
  refine lv_iload_n hx hb dX7_sweep_198 rfl (lv_at hl 2 rfl) ?_
  obtain ⟨hi199, h⟩ := o_ix h
  refine va_iald hx hb hK hP 2 0 rfl rfl hi199 dX7_sweep_199 ?_
  obtain ⟨hi200, h⟩ := o_ix h
  refine va_iald hx hb hK hP 9 0 rfl rfl hi200 dX7_sweep_200 ?_
  refine lv_goto (tgt := 210) hx hb dX7_sweep_201 (by decide) ?_
  exact w_X7_sweep_210 CX hK hsz (hK135 := hK135) used kind left_ right_ many bits rows table roots moved y1 y2 s1 (moved (left_ y2.toNatClampNeg).toNatClampNeg) _ _ _ h hP hD hS (lv_sub hl [0, 1, 2] rfl)
set_option maxHeartbeats 4000000 in
set_option maxRecDepth 100000 in
theorem w_X7_sweep_431 (CX : Cx p m c cX7_sweep 4 s args x0 RX7 meth none) (hK : va_K D vwCl (ty0 cI cJ cB) s) (hsz : s.heap.size = sz) {K384 : Int32 → Int32 → (Nat → Int32) → (Nat → Int32) → (Nat → Int32) → (Nat → Int32) → (Nat → Int32) → (Nat → Int32) → (Nat → Int32) → (Nat → Int32) → (Nat → Int32) → (Nat → Int64) → Int32 → Option ((Int32) × (Nat → Int32) × (Nat → Int32) × (Nat → Int32) × (Nat → Int32) × (Nat → Int32) × (Nat → Int32) × (Nat → Int32) × (Nat → Int32) × (Nat → Int32))} (hK384 : ∀ (used : Int32) (kind : Nat → Int32) (left_ : Nat → Int32) (right_ : Nat → Int32) (many : Nat → Int32) (bits : Nat → Int32) (rows : Nat → Int32) (table : Nat → Int32) (roots : Nat → Int32) (moved : Nat → Int32) (y2 : Int32) (H : Heap) (locs : List Loc) (ls : Array Slot), K384 used rooted kind left_ right_ many bits rows table roots moved row y2 = some z → va_P D vwCl (ws_X7_sweep cI cJ cB a0 a_text a_out a_above a_below a_sum a_point a_pointRows a_pointSorts a_kind a_left a_right a_many a_bits a_rows a_table a_roots a_moved a_row thrown used rooted size outSize points takenOut great at_ fault open_ wrong by_ sort variable_ pointCount kind left_ right_ many bits rows table roots moved row) H → va_D (va_A ws0 sz) (ws_X7_sweep cI cJ cB a0 a_text a_out a_above a_below a_sum a_point a_pointRows a_pointSorts a_kind a_left a_right a_many a_bits a_rows a_table a_roots a_moved a_row thrown used rooted size outSize points takenOut great at_ fault open_ wrong by_ sort variable_ pointCount kind left_ right_ many bits rows table roots moved row) → va_S (va_A ws0 sz) s.heap H locs → lv_has ls 4 [(0, .ref a0), (2, .int y2)] → W p l e rm_X7_sweep s m args below meth c H locs 0 0 (MQ below (gQ D sz ws0 (ws_X7_sweep cI cJ cB a0 a_text a_out a_above a_below a_sum a_point a_pointRows a_pointSorts a_kind a_left a_right a_many a_bits a_rows a_table a_roots a_moved a_row thrown z.1 rooted size outSize points takenOut great at_ fault open_ wrong by_ sort variable_ pointCount z.2.1 z.2.2.1 z.2.2.2.1 z.2.2.2.2.1 z.2.2.2.2.2.1 z.2.2.2.2.2.2.1 z.2.2.2.2.2.2.2.1 z.2.2.2.2.2.2.2.2.1 z.2.2.2.2.2.2.2.2.2 row) none) args s 0 0 (va_A ws0 sz)) (F0 m 384 ls [])) : ∀ (n : Nat), ∀ (used : Int32) (kind : Nat → Int32) (left_ : Nat → Int32) (right_ : Nat → Int32) (many : Nat → Int32) (bits : Nat → Int32) (rows : Nat → Int32) (table : Nat → Int32) (roots : Nat → Int32) (moved : Nat → Int32) (y2 : Int32) (y3 : Int32) (H : Heap) (locs : List Loc) (ls : Array Slot), f_X7_sweep_431 K384 N n used rooted kind left_ right_ many bits rows table roots moved row y2 y3 = some z → va_P D vwCl (ws_X7_sweep cI cJ cB a0 a_text a_out a_above a_below a_sum a_point a_pointRows a_pointSorts a_kind a_left a_right a_many a_bits a_rows a_table a_roots a_moved a_row thrown used rooted size outSize points takenOut great at_ fault open_ wrong by_ sort variable_ pointCount kind left_ right_ many bits rows table roots moved row) H → va_D (va_A ws0 sz) (ws_X7_sweep cI cJ cB a0 a_text a_out a_above a_below a_sum a_point a_pointRows a_pointSorts a_kind a_left a_right a_many a_bits a_rows a_table a_roots a_moved a_row thrown used rooted size outSize points takenOut great at_ fault open_ wrong by_ sort variable_ pointCount kind left_ right_ many bits rows table roots moved row) → va_S (va_A ws0 sz) s.heap H locs → lv_has ls 4 [(0, .ref a0), (2, .int y2), (3, .int y3)] → W p l e rm_X7_sweep s m args below meth c H locs 0 0 (MQ below (gQ D sz ws0 (ws_X7_sweep cI cJ cB a0 a_text a_out a_above a_below a_sum a_point a_pointRows a_pointSorts a_kind a_left a_right a_many a_bits a_rows a_table a_roots a_moved a_row thrown z.1 rooted size outSize points takenOut great at_ fault open_ wrong by_ sort variable_ pointCount z.2.1 z.2.2.1 z.2.2.2.1 z.2.2.2.2.1 z.2.2.2.2.2.1 z.2.2.2.2.2.2.1 z.2.2.2.2.2.2.2.1 z.2.2.2.2.2.2.2.2.1 z.2.2.2.2.2.2.2.2.2 row) none) args s 0 0 (va_A ws0 sz)) (F0 m 431 ls []) := by
  obtain ⟨F, hr, hlk, hNw⟩ := id CX
  have hx := F.1
  have hb := F.2.1
  have hown := F.2.2.2.1
  have hA : ∀ q, s.heap.size ≤ q → va_A ws0 sz q := fun q hq => Or.inr (hsz ▸ hq)
  intro n
  induction n with
  | zero =>
    intro used kind left_ right_ many bits rows table roots moved y2 y3 H locs ls h
    cases h
  | succ n ih =>
    intro used kind left_ right_ many bits rows table roots moved y2 y3 H locs ls h hP hD hS hl
    unfold f_X7_sweep_431 at h
    refine lv_aload_n hx hb dX7_sweep_431 rfl (lv_at hl 0 rfl) ?_
    refine r_get F hK hP 0 7 rfl inW_X7 wm_1099 rfl (by decide) rfl dX7_sweep_432 ?_
    refine lv_iload_n hx hb dX7_sweep_435 rfl (lv_at hl 2 rfl) ?_
    obtain ⟨hi436, h⟩ := o_ix h
    refine va_iald hx hb hK hP 7 0 rfl rfl hi436 dX7_sweep_436 ?_
    refine lv_if_le (tgt := 450) hx hb dX7_sweep_437 (by decide) (fun c437 => ?_) (fun c437 => ?_)
    · have h := o_t c437 h
      refine lv_aload_n hx hb dX7_sweep_450 rfl (lv_at hl 0 rfl) ?_
      refine r_get F hK hP 0 7 rfl inW_X7 wm_1099 rfl (by decide) rfl dX7_sweep_451 ?_
      refine lv_iload_n hx hb dX7_sweep_454 rfl (lv_at hl 2 rfl) ?_
      refine lv_iload_n hx hb dX7_sweep_455 rfl (lv_at hl 1 rfl) ?_
      refine lv_iconst (v := 1) hx hb dX7_sweep_456 (by decide) ?_
      refine lv_iadd hx hb dX7_sweep_457 ?_
      obtain ⟨hi458, h⟩ := o_ix h
      refine r_iast (wn := (ws_X7_sweep cI cJ cB a0 a_text a_out a_above a_below a_sum a_point a_pointRows a_pointSorts a_kind a_left a_right a_many a_bits a_rows a_table a_roots a_moved a_row thrown used rooted size outSize points takenOut great at_ fault open_ wrong by_ sort variable_ pointCount kind left_ right_ many bits rows (upd table y3.toNatClampNeg (y2 + 1)) roots moved row)) F hK hP hD hS 7 0 hi458 rfl rfl rfl dX7_sweep_458 (fun H locs hP hD hS => ?_)
      refine lv_iinc (v := y2 + 1) (lv' := [(2, .int (y2 + 1)), (0, .ref a0), (3, .int y3)]) hx hb dX7_sweep_459 hl (k := 1) rfl rfl (by decide) rfl (fun ls hl => ?_)
      refine lv_goto (tgt := 384) hx hb dX7_sweep_462 (by decide) ?_
      exact hK384 used kind left_ right_ many bits rows (upd table y3.toNatClampNeg (y2 + 1)) roots moved (y2 + 1) _ _ _ h hP hD hS (lv_sub hl [1, 0] rfl)
    · have h := o_f c437 h
      refine lv_iload_n hx hb dX7_sweep_440 rfl (lv_at hl 2 rfl) ?_
      refine lv_iconst (v := 1) hx hb dX7_sweep_441 (by decide) ?_
      refine lv_iadd hx hb dX7_sweep_442 ?_
      refine lv_ldc (v := 65535) hx hb hown (F.2.2.2.2 _ (q_in wm_1091)) dX7_sweep_443 ?_
      refine lv_iand hx hb dX7_sweep_445 ?_
      refine lv_istore_n (lv' := [(3, .int ((y3 + 1) &&& 65535)), (0, .ref a0), (2, .int y2)]) hx hb dX7_sweep_446 rfl hl (by decide) rfl (fun ls hl => ?_)
      refine lv_goto (tgt := 431) hx hb dX7_sweep_447 (by decide) ?_
      exact ih used kind left_ right_ many bits rows table roots moved y2 ((y3 + 1) &&& 65535) _ _ _ h hP hD hS (lv_sub hl [1, 2, 0] rfl)
set_option maxHeartbeats 4000000 in
set_option maxRecDepth 100000 in
theorem w_X7_sweep_426 (CX : Cx p m c cX7_sweep 4 s args x0 RX7 meth none) (hK : va_K D vwCl (ty0 cI cJ cB) s) (hsz : s.heap.size = sz) {K384 : Int32 → Int32 → (Nat → Int32) → (Nat → Int32) → (Nat → Int32) → (Nat → Int32) → (Nat → Int32) → (Nat → Int32) → (Nat → Int32) → (Nat → Int32) → (Nat → Int32) → (Nat → Int64) → Int32 → Option ((Int32) × (Nat → Int32) × (Nat → Int32) × (Nat → Int32) × (Nat → Int32) × (Nat → Int32) × (Nat → Int32) × (Nat → Int32) × (Nat → Int32) × (Nat → Int32))} (hK384 : ∀ (used : Int32) (kind : Nat → Int32) (left_ : Nat → Int32) (right_ : Nat → Int32) (many : Nat → Int32) (bits : Nat → Int32) (rows : Nat → Int32) (table : Nat → Int32) (roots : Nat → Int32) (moved : Nat → Int32) (y2 : Int32) (H : Heap) (locs : List Loc) (ls : Array Slot), K384 used rooted kind left_ right_ many bits rows table roots moved row y2 = some z → va_P D vwCl (ws_X7_sweep cI cJ cB a0 a_text a_out a_above a_below a_sum a_point a_pointRows a_pointSorts a_kind a_left a_right a_many a_bits a_rows a_table a_roots a_moved a_row thrown used rooted size outSize points takenOut great at_ fault open_ wrong by_ sort variable_ pointCount kind left_ right_ many bits rows table roots moved row) H → va_D (va_A ws0 sz) (ws_X7_sweep cI cJ cB a0 a_text a_out a_above a_below a_sum a_point a_pointRows a_pointSorts a_kind a_left a_right a_many a_bits a_rows a_table a_roots a_moved a_row thrown used rooted size outSize points takenOut great at_ fault open_ wrong by_ sort variable_ pointCount kind left_ right_ many bits rows table roots moved row) → va_S (va_A ws0 sz) s.heap H locs → lv_has ls 4 [(0, .ref a0), (2, .int y2)] → W p l e rm_X7_sweep s m args below meth c H locs 0 0 (MQ below (gQ D sz ws0 (ws_X7_sweep cI cJ cB a0 a_text a_out a_above a_below a_sum a_point a_pointRows a_pointSorts a_kind a_left a_right a_many a_bits a_rows a_table a_roots a_moved a_row thrown z.1 rooted size outSize points takenOut great at_ fault open_ wrong by_ sort variable_ pointCount z.2.1 z.2.2.1 z.2.2.2.1 z.2.2.2.2.1 z.2.2.2.2.2.1 z.2.2.2.2.2.2.1 z.2.2.2.2.2.2.2.1 z.2.2.2.2.2.2.2.2.1 z.2.2.2.2.2.2.2.2.2 row) none) args s 0 0 (va_A ws0 sz)) (F0 m 384 ls [])) : ∀ (used : Int32) (kind : Nat → Int32) (left_ : Nat → Int32) (right_ : Nat → Int32) (many : Nat → Int32) (bits : Nat → Int32) (rows : Nat → Int32) (table : Nat → Int32) (roots : Nat → Int32) (moved : Nat → Int32) (y2 : Int32) (s1 : Int32) (s2 : Int32) (s3 : Int32) (s4 : Int32) (H : Heap) (locs : List Loc) (ls : Array Slot), f_X7_sweep_426 K384 N used rooted kind left_ right_ many bits rows table roots moved row y2 s1 s2 s3 s4 = some z → va_P D vwCl (ws_X7_sweep cI cJ cB a0 a_text a_out a_above a_below a_sum a_point a_pointRows a_pointSorts a_kind a_left a_right a_many a_bits a_rows a_table a_roots a_moved a_row thrown used rooted size outSize points takenOut great at_ fault open_ wrong by_ sort variable_ pointCount kind left_ right_ many bits rows table roots moved row) H → va_D (va_A ws0 sz) (ws_X7_sweep cI cJ cB a0 a_text a_out a_above a_below a_sum a_point a_pointRows a_pointSorts a_kind a_left a_right a_many a_bits a_rows a_table a_roots a_moved a_row thrown used rooted size outSize points takenOut great at_ fault open_ wrong by_ sort variable_ pointCount kind left_ right_ many bits rows table roots moved row) → va_S (va_A ws0 sz) s.heap H locs → lv_has ls 4 [(0, .ref a0), (2, .int y2)] → W p l e rm_X7_sweep s m args below meth c H locs 0 0 (MQ below (gQ D sz ws0 (ws_X7_sweep cI cJ cB a0 a_text a_out a_above a_below a_sum a_point a_pointRows a_pointSorts a_kind a_left a_right a_many a_bits a_rows a_table a_roots a_moved a_row thrown z.1 rooted size outSize points takenOut great at_ fault open_ wrong by_ sort variable_ pointCount z.2.1 z.2.2.1 z.2.2.2.1 z.2.2.2.2.1 z.2.2.2.2.2.1 z.2.2.2.2.2.2.1 z.2.2.2.2.2.2.2.1 z.2.2.2.2.2.2.2.2.1 z.2.2.2.2.2.2.2.2.2 row) none) args s 0 0 (va_A ws0 sz)) (F0 m 426 ls [.int s4, .int s3, .int s2, .int s1, .ref a0]) := by
  obtain ⟨F, hr, hlk, hNw⟩ := id CX
  have hx := F.1
  have hb := F.2.1
  have hown := F.2.2.2.1
  have hA : ∀ q, s.heap.size ≤ q → va_A ws0 sz q := fun q hq => Or.inr (hsz ▸ hq)
  intro used kind left_ right_ many bits rows table roots moved y2 s1 s2 s3 s4 H locs ls h hP hD hS hl
  unfold f_X7_sweep_426 at h
  refine lv_iload_n hx hb dX7_sweep_426 rfl (lv_at hl 1 rfl) ?_
  obtain ⟨z427, hz427, h⟩ := o_b h
  refine k_v (wn := (ws_X7_sweep cI cJ cB a0 a_text a_out a_above a_below a_sum a_point a_pointRows a_pointSorts a_kind a_left a_right a_many a_bits a_rows a_table a_roots a_moved a_row thrown used rooted size outSize points takenOut great at_ fault open_ wrong by_ sort variable_ pointCount kind left_ right_ many bits rows table roots moved row)) (As := [.int s1, .int s2, .int s3, .int s4, .int y2]) (rest := []) F hNw hK hP hD hS hA (c_X7_hashOf l D cI cJ cB a0 a_kind a_left a_right a_many a_bits a_table a_roots a_moved a_text a_out a_above a_below a_sum a_point a_pointRows a_pointSorts a_rows a_row _ thrown used rooted size outSize points takenOut great at_ fault open_ wrong by_ sort variable_ pointCount rows row s1 s2 s3 s4 y2 N hz427) wm_1086 cv_X7_hashOf [0, 6, 10] [1, 2, 3, 4, 5, 7, 8, 9] [8, 0, 1, 2, 3, 4, 9, 5, 6, 7, 10] (⟨rfl, rfl, rfl, by decide, rfl⟩ : Ix [0, 6, 10] [1, 2, 3, 4, 5, 7, 8, 9] [8, 0, 1, 2, 3, 4, 9, 5, 6, 7, 10] 11) rfl (hN_of 8 11 (by decide +kernel) rfl (by decide +kernel) rfl) rfl rfl rfl rfl ⟨rfl, rfl, by decide, by decide⟩ hl.1 rfl (Nat.le_of_ble_eq_true rfl) ⟨Nat.zero_le _, Nat.zero_le _⟩ dX7_sweep_427 (fun H locs hP hD hS => ?_)
  refine lv_istore_n (lv' := [(3, .int z427), (0, .ref a0), (2, .int y2)]) hx hb dX7_sweep_430 rfl hl (by decide) rfl (fun ls hl => ?_)
  exact w_X7_sweep_431 CX hK hsz (hK384 := hK384) N used kind left_ right_ many bits rows table roots moved y2 z427 _ _ _ h hP hD hS (lv_sub hl [1, 2, 0] rfl)
set_option maxHeartbeats 4000000 in
set_option maxRecDepth 100000 in
theorem w_X7_sweep_384 (CX : Cx p m c cX7_sweep 4 s args x0 RX7 meth none) (hK : va_K D vwCl (ty0 cI cJ cB) s) (hsz : s.heap.size = sz) : ∀ (n : Nat), ∀ (used : Int32) (kind : Nat → Int32) (left_ : Nat → Int32) (right_ : Nat → Int32) (many : Nat → Int32) (bits : Nat → Int32) (rows : Nat → Int32) (table : Nat → Int32) (roots : Nat → Int32) (moved : Nat → Int32) (y2 : Int32) (H : Heap) (locs : List Loc) (ls : Array Slot), f_X7_sweep_384 N n used rooted kind left_ right_ many bits rows table roots moved row y2 = some z → va_P D vwCl (ws_X7_sweep cI cJ cB a0 a_text a_out a_above a_below a_sum a_point a_pointRows a_pointSorts a_kind a_left a_right a_many a_bits a_rows a_table a_roots a_moved a_row thrown used rooted size outSize points takenOut great at_ fault open_ wrong by_ sort variable_ pointCount kind left_ right_ many bits rows table roots moved row) H → va_D (va_A ws0 sz) (ws_X7_sweep cI cJ cB a0 a_text a_out a_above a_below a_sum a_point a_pointRows a_pointSorts a_kind a_left a_right a_many a_bits a_rows a_table a_roots a_moved a_row thrown used rooted size outSize points takenOut great at_ fault open_ wrong by_ sort variable_ pointCount kind left_ right_ many bits rows table roots moved row) → va_S (va_A ws0 sz) s.heap H locs → lv_has ls 4 [(0, .ref a0), (2, .int y2)] → W p l e rm_X7_sweep s m args below meth c H locs 0 0 (MQ below (gQ D sz ws0 (ws_X7_sweep cI cJ cB a0 a_text a_out a_above a_below a_sum a_point a_pointRows a_pointSorts a_kind a_left a_right a_many a_bits a_rows a_table a_roots a_moved a_row thrown z.1 rooted size outSize points takenOut great at_ fault open_ wrong by_ sort variable_ pointCount z.2.1 z.2.2.1 z.2.2.2.1 z.2.2.2.2.1 z.2.2.2.2.2.1 z.2.2.2.2.2.2.1 z.2.2.2.2.2.2.2.1 z.2.2.2.2.2.2.2.2.1 z.2.2.2.2.2.2.2.2.2 row) none) args s 0 0 (va_A ws0 sz)) (F0 m 384 ls []) := by
  obtain ⟨F, hr, hlk, hNw⟩ := id CX
  have hx := F.1
  have hb := F.2.1
  have hown := F.2.2.2.1
  have hA : ∀ q, s.heap.size ≤ q → va_A ws0 sz q := fun q hq => Or.inr (hsz ▸ hq)
  intro n
  induction n with
  | zero =>
    intro used kind left_ right_ many bits rows table roots moved y2 H locs ls h
    cases h
  | succ n ih =>
    intro used kind left_ right_ many bits rows table roots moved y2 H locs ls h hP hD hS hl
    unfold f_X7_sweep_384 at h
    refine lv_iload_n hx hb dX7_sweep_384 rfl (lv_at hl 1 rfl) ?_
    refine lv_aload_n hx hb dX7_sweep_385 rfl (lv_at hl 0 rfl) ?_
    refine r_get F hK hP 0 8 rfl inW_X7 wm_1100 rfl (by decide) rfl dX7_sweep_386 ?_
    refine lv_icmp_ge (tgt := 465) hx hb dX7_sweep_389 (by decide) (fun c389 => ?_) (fun c389 => ?_)
    · have h := o_t c389 h
      obtain rfl := Option.some.inj h
      exact r_vret F hr hlk dX7_sweep_465 hsz hP hD hS
    · have h := o_f c389 h
      refine lv_aload_n hx hb dX7_sweep_392 rfl (lv_at hl 0 rfl) ?_
      refine lv_aload_n hx hb dX7_sweep_393 rfl (lv_at hl 0 rfl) ?_
      refine r_get F hK hP 0 1 rfl inW_X7 wm_1093 rfl (by decide) rfl dX7_sweep_394 ?_
      refine lv_iload_n hx hb dX7_sweep_397 rfl (lv_at hl 1 rfl) ?_
      obtain ⟨hi398, h⟩ := o_ix h
      refine va_iald hx hb hK hP 1 0 rfl rfl hi398 dX7_sweep_398 ?_
      refine lv_aload_n hx hb dX7_sweep_399 rfl (lv_at hl 0 rfl) ?_
      refine r_get F hK hP 0 2 rfl inW_X7 wm_1094 rfl (by decide) rfl dX7_sweep_400 ?_
      refine lv_iload_n hx hb dX7_sweep_403 rfl (lv_at hl 1 rfl) ?_
      obtain ⟨hi404, h⟩ := o_ix h
      refine va_iald hx hb hK hP 2 0 rfl rfl hi404 dX7_sweep_404 ?_
      refine lv_aload_n hx hb dX7_sweep_405 rfl (lv_at hl 0 rfl) ?_
      refine r_get F hK hP 0 3 rfl inW_X7 wm_1095 rfl (by decide) rfl dX7_sweep_406 ?_
      refine lv_iload_n hx hb dX7_sweep_409 rfl (lv_at hl 1 rfl) ?_
      obtain ⟨hi410, h⟩ := o_ix h
      refine va_iald hx hb hK hP 3 0 rfl rfl hi410 dX7_sweep_410 ?_
      refine lv_aload_n hx hb dX7_sweep_411 rfl (lv_at hl 0 rfl) ?_
      refine r_get F hK hP 0 1 rfl inW_X7 wm_1093 rfl (by decide) rfl dX7_sweep_412 ?_
      refine lv_iload_n hx hb dX7_sweep_415 rfl (lv_at hl 1 rfl) ?_
      obtain ⟨hi416, h⟩ := o_ix h
      refine va_iald hx hb hK hP 1 0 rfl rfl hi416 dX7_sweep_416 ?_
      refine lv_iconst (v := 2) hx hb dX7_sweep_417 (by decide) ?_
      refine lv_icmp_ne (tgt := 425) hx hb dX7_sweep_418 (by decide) (fun c418 => ?_) (fun c418 => ?_)
      · have h := o_f c418 h
        refine lv_iconst (v := 0) hx hb dX7_sweep_425 (by decide) ?_
        exact w_X7_sweep_426 CX hK hsz (hK384 := ih) used kind left_ right_ many bits rows table roots moved y2 (kind y2.toNatClampNeg) (left_ y2.toNatClampNeg) (right_ y2.toNatClampNeg) 0 _ _ _ h hP hD hS (lv_sub hl [0, 1] rfl)
      · have h := o_t c418 h
        refine lv_iconst (v := 1) hx hb dX7_sweep_421 (by decide) ?_
        refine lv_goto (tgt := 426) hx hb dX7_sweep_422 (by decide) ?_
        exact w_X7_sweep_426 CX hK hsz (hK384 := ih) used kind left_ right_ many bits rows table roots moved y2 (kind y2.toNatClampNeg) (left_ y2.toNatClampNeg) (right_ y2.toNatClampNeg) 1 _ _ _ h hP hD hS (lv_sub hl [0, 1] rfl)
set_option maxHeartbeats 4000000 in
set_option maxRecDepth 100000 in
theorem w_X7_sweep_363 (CX : Cx p m c cX7_sweep 4 s args x0 RX7 meth none) (hK : va_K D vwCl (ty0 cI cJ cB) s) (hsz : s.heap.size = sz) : ∀ (n : Nat), ∀ (used : Int32) (kind : Nat → Int32) (left_ : Nat → Int32) (right_ : Nat → Int32) (many : Nat → Int32) (bits : Nat → Int32) (rows : Nat → Int32) (table : Nat → Int32) (roots : Nat → Int32) (moved : Nat → Int32) (y2 : Int32) (H : Heap) (locs : List Loc) (ls : Array Slot), f_X7_sweep_363 N n used rooted kind left_ right_ many bits rows table roots moved row y2 = some z → va_P D vwCl (ws_X7_sweep cI cJ cB a0 a_text a_out a_above a_below a_sum a_point a_pointRows a_pointSorts a_kind a_left a_right a_many a_bits a_rows a_table a_roots a_moved a_row thrown used rooted size outSize points takenOut great at_ fault open_ wrong by_ sort variable_ pointCount kind left_ right_ many bits rows table roots moved row) H → va_D (va_A ws0 sz) (ws_X7_sweep cI cJ cB a0 a_text a_out a_above a_below a_sum a_point a_pointRows a_pointSorts a_kind a_left a_right a_many a_bits a_rows a_table a_roots a_moved a_row thrown used rooted size outSize points takenOut great at_ fault open_ wrong by_ sort variable_ pointCount kind left_ right_ many bits rows table roots moved row) → va_S (va_A ws0 sz) s.heap H locs → lv_has ls 4 [(0, .ref a0), (2, .int y2)] → W p l e rm_X7_sweep s m args below meth c H locs 0 0 (MQ below (gQ D sz ws0 (ws_X7_sweep cI cJ cB a0 a_text a_out a_above a_below a_sum a_point a_pointRows a_pointSorts a_kind a_left a_right a_many a_bits a_rows a_table a_roots a_moved a_row thrown z.1 rooted size outSize points takenOut great at_ fault open_ wrong by_ sort variable_ pointCount z.2.1 z.2.2.1 z.2.2.2.1 z.2.2.2.2.1 z.2.2.2.2.2.1 z.2.2.2.2.2.2.1 z.2.2.2.2.2.2.2.1 z.2.2.2.2.2.2.2.2.1 z.2.2.2.2.2.2.2.2.2 row) none) args s 0 0 (va_A ws0 sz)) (F0 m 363 ls []) := by
  obtain ⟨F, hr, hlk, hNw⟩ := id CX
  have hx := F.1
  have hb := F.2.1
  have hown := F.2.2.2.1
  have hA : ∀ q, s.heap.size ≤ q → va_A ws0 sz q := fun q hq => Or.inr (hsz ▸ hq)
  intro n
  induction n with
  | zero =>
    intro used kind left_ right_ many bits rows table roots moved y2 H locs ls h
    cases h
  | succ n ih =>
    intro used kind left_ right_ many bits rows table roots moved y2 H locs ls h hP hD hS hl
    unfold f_X7_sweep_363 at h
    refine lv_iload_n hx hb dX7_sweep_363 rfl (lv_at hl 1 rfl) ?_
    refine lv_ldc (v := 65536) hx hb hown (F.2.2.2.2 _ (q_in wm_1081)) dX7_sweep_364 ?_
    refine lv_icmp_ge (tgt := 382) hx hb dX7_sweep_366 (by decide) (fun c366 => ?_) (fun c366 => ?_)
    · have h := o_t c366 h
      refine lv_iconst (v := 0) hx hb dX7_sweep_382 (by decide) ?_
      refine lv_istore_n (lv' := [(2, .int 0), (0, .ref a0)]) hx hb dX7_sweep_383 rfl hl (by decide) rfl (fun ls hl => ?_)
      exact w_X7_sweep_384 CX hK hsz N used kind left_ right_ many bits rows table roots moved 0 _ _ _ h hP hD hS (lv_sub hl [1, 0] rfl)
    · have h := o_f c366 h
      refine lv_aload_n hx hb dX7_sweep_369 rfl (lv_at hl 0 rfl) ?_
      refine r_get F hK hP 0 7 rfl inW_X7 wm_1099 rfl (by decide) rfl dX7_sweep_370 ?_
      refine lv_iload_n hx hb dX7_sweep_373 rfl (lv_at hl 1 rfl) ?_
      refine lv_iconst (v := 0) hx hb dX7_sweep_374 (by decide) ?_
      obtain ⟨hi375, h⟩ := o_ix h
      refine r_iast (wn := (ws_X7_sweep cI cJ cB a0 a_text a_out a_above a_below a_sum a_point a_pointRows a_pointSorts a_kind a_left a_right a_many a_bits a_rows a_table a_roots a_moved a_row thrown used rooted size outSize points takenOut great at_ fault open_ wrong by_ sort variable_ pointCount kind left_ right_ many bits rows (upd table y2.toNatClampNeg 0) roots moved row)) F hK hP hD hS 7 0 hi375 rfl rfl rfl dX7_sweep_375 (fun H locs hP hD hS => ?_)
      refine lv_iinc (v := y2 + 1) (lv' := [(2, .int (y2 + 1)), (0, .ref a0)]) hx hb dX7_sweep_376 hl (k := 1) rfl rfl (by decide) rfl (fun ls hl => ?_)
      refine lv_goto (tgt := 363) hx hb dX7_sweep_379 (by decide) ?_
      exact ih used kind left_ right_ many bits rows (upd table y2.toNatClampNeg 0) roots moved (y2 + 1) _ _ _ h hP hD hS (lv_sub hl [1, 0] rfl)
set_option maxHeartbeats 4000000 in
set_option maxRecDepth 100000 in
theorem w_X7_sweep_330 (CX : Cx p m c cX7_sweep 4 s args x0 RX7 meth none) (hK : va_K D vwCl (ty0 cI cJ cB) s) (hsz : s.heap.size = sz) : ∀ (n : Nat), ∀ (used : Int32) (kind : Nat → Int32) (left_ : Nat → Int32) (right_ : Nat → Int32) (many : Nat → Int32) (bits : Nat → Int32) (rows : Nat → Int32) (table : Nat → Int32) (roots : Nat → Int32) (moved : Nat → Int32) (y2 : Int32) (H : Heap) (locs : List Loc) (ls : Array Slot), f_X7_sweep_330 N n used rooted kind left_ right_ many bits rows table roots moved row y2 = some z → va_P D vwCl (ws_X7_sweep cI cJ cB a0 a_text a_out a_above a_below a_sum a_point a_pointRows a_pointSorts a_kind a_left a_right a_many a_bits a_rows a_table a_roots a_moved a_row thrown used rooted size outSize points takenOut great at_ fault open_ wrong by_ sort variable_ pointCount kind left_ right_ many bits rows table roots moved row) H → va_D (va_A ws0 sz) (ws_X7_sweep cI cJ cB a0 a_text a_out a_above a_below a_sum a_point a_pointRows a_pointSorts a_kind a_left a_right a_many a_bits a_rows a_table a_roots a_moved a_row thrown used rooted size outSize points takenOut great at_ fault open_ wrong by_ sort variable_ pointCount kind left_ right_ many bits rows table roots moved row) → va_S (va_A ws0 sz) s.heap H locs → lv_has ls 4 [(0, .ref a0), (2, .int y2)] → W p l e rm_X7_sweep s m args below meth c H locs 0 0 (MQ below (gQ D sz ws0 (ws_X7_sweep cI cJ cB a0 a_text a_out a_above a_below a_sum a_point a_pointRows a_pointSorts a_kind a_left a_right a_many a_bits a_rows a_table a_roots a_moved a_row thrown z.1 rooted size outSize points takenOut great at_ fault open_ wrong by_ sort variable_ pointCount z.2.1 z.2.2.1 z.2.2.2.1 z.2.2.2.2.1 z.2.2.2.2.2.1 z.2.2.2.2.2.2.1 z.2.2.2.2.2.2.2.1 z.2.2.2.2.2.2.2.2.1 z.2.2.2.2.2.2.2.2.2 row) none) args s 0 0 (va_A ws0 sz)) (F0 m 330 ls []) := by
  obtain ⟨F, hr, hlk, hNw⟩ := id CX
  have hx := F.1
  have hb := F.2.1
  have hown := F.2.2.2.1
  have hA : ∀ q, s.heap.size ≤ q → va_A ws0 sz q := fun q hq => Or.inr (hsz ▸ hq)
  intro n
  induction n with
  | zero =>
    intro used kind left_ right_ many bits rows table roots moved y2 H locs ls h
    cases h
  | succ n ih =>
    intro used kind left_ right_ many bits rows table roots moved y2 H locs ls h hP hD hS hl
    unfold f_X7_sweep_330 at h
    refine lv_iload_n hx hb dX7_sweep_330 rfl (lv_at hl 1 rfl) ?_
    refine lv_aload_n hx hb dX7_sweep_331 rfl (lv_at hl 0 rfl) ?_
    refine r_get F hK hP 0 10 rfl inW_X7 wm_1102 rfl (by decide) rfl dX7_sweep_332 ?_
    refine lv_icmp_ge (tgt := 361) hx hb dX7_sweep_335 (by decide) (fun c335 => ?_) (fun c335 => ?_)
    · have h := o_t c335 h
      refine lv_iconst (v := 0) hx hb dX7_sweep_361 (by decide) ?_
      refine lv_istore_n (lv' := [(2, .int 0), (0, .ref a0)]) hx hb dX7_sweep_362 rfl hl (by decide) rfl (fun ls hl => ?_)
      exact w_X7_sweep_363 CX hK hsz N used kind left_ right_ many bits rows table roots moved 0 _ _ _ h hP hD hS (lv_sub hl [1, 0] rfl)
    · have h := o_f c335 h
      refine lv_aload_n hx hb dX7_sweep_338 rfl (lv_at hl 0 rfl) ?_
      refine r_get F hK hP 0 9 rfl inW_X7 wm_1101 rfl (by decide) rfl dX7_sweep_339 ?_
      refine lv_iload_n hx hb dX7_sweep_342 rfl (lv_at hl 1 rfl) ?_
      refine lv_aload_n hx hb dX7_sweep_343 rfl (lv_at hl 0 rfl) ?_
      refine r_get F hK hP 0 11 rfl inW_X7 wm_1103 rfl (by decide) rfl dX7_sweep_344 ?_
      refine lv_aload_n hx hb dX7_sweep_347 rfl (lv_at hl 0 rfl) ?_
      refine r_get F hK hP 0 9 rfl inW_X7 wm_1101 rfl (by decide) rfl dX7_sweep_348 ?_
      refine lv_iload_n hx hb dX7_sweep_351 rfl (lv_at hl 1 rfl) ?_
      obtain ⟨hi352, h⟩ := o_ix h
      refine va_iald hx hb hK hP 8 0 rfl rfl hi352 dX7_sweep_352 ?_
      obtain ⟨hi353, h⟩ := o_ix h
      refine va_iald hx hb hK hP 9 0 rfl rfl hi353 dX7_sweep_353 ?_
      obtain ⟨hi354, h⟩ := o_ix h
      refine r_iast (wn := (ws_X7_sweep cI cJ cB a0 a_text a_out a_above a_below a_sum a_point a_pointRows a_pointSorts a_kind a_left a_right a_many a_bits a_rows a_table a_roots a_moved a_row thrown used rooted size outSize points takenOut great at_ fault open_ wrong by_ sort variable_ pointCount kind left_ right_ many bits rows table (upd roots y2.toNatClampNeg (moved (roots y2.toNatClampNeg).toNatClampNeg)) moved row)) F hK hP hD hS 8 0 hi354 rfl rfl rfl dX7_sweep_354 (fun H locs hP hD hS => ?_)
      refine lv_iinc (v := y2 + 1) (lv' := [(2, .int (y2 + 1)), (0, .ref a0)]) hx hb dX7_sweep_355 hl (k := 1) rfl rfl (by decide) rfl (fun ls hl => ?_)
      refine lv_goto (tgt := 330) hx hb dX7_sweep_358 (by decide) ?_
      exact ih used kind left_ right_ many bits rows table (upd roots y2.toNatClampNeg (moved (roots y2.toNatClampNeg).toNatClampNeg)) moved (y2 + 1) _ _ _ h hP hD hS (lv_sub hl [1, 0] rfl)
set_option maxHeartbeats 4000000 in
set_option maxRecDepth 100000 in
theorem w_X7_sweep_135 (CX : Cx p m c cX7_sweep 4 s args x0 RX7 meth none) (hK : va_K D vwCl (ty0 cI cJ cB) s) (hsz : s.heap.size = sz) : ∀ (n : Nat), ∀ (used : Int32) (kind : Nat → Int32) (left_ : Nat → Int32) (right_ : Nat → Int32) (many : Nat → Int32) (bits : Nat → Int32) (rows : Nat → Int32) (table : Nat → Int32) (roots : Nat → Int32) (moved : Nat → Int32) (y1 : Int32) (y2 : Int32) (H : Heap) (locs : List Loc) (ls : Array Slot), f_X7_sweep_135 N n used rooted kind left_ right_ many bits rows table roots moved row y1 y2 = some z → va_P D vwCl (ws_X7_sweep cI cJ cB a0 a_text a_out a_above a_below a_sum a_point a_pointRows a_pointSorts a_kind a_left a_right a_many a_bits a_rows a_table a_roots a_moved a_row thrown used rooted size outSize points takenOut great at_ fault open_ wrong by_ sort variable_ pointCount kind left_ right_ many bits rows table roots moved row) H → va_D (va_A ws0 sz) (ws_X7_sweep cI cJ cB a0 a_text a_out a_above a_below a_sum a_point a_pointRows a_pointSorts a_kind a_left a_right a_many a_bits a_rows a_table a_roots a_moved a_row thrown used rooted size outSize points takenOut great at_ fault open_ wrong by_ sort variable_ pointCount kind left_ right_ many bits rows table roots moved row) → va_S (va_A ws0 sz) s.heap H locs → lv_has ls 4 [(0, .ref a0), (1, .int y1), (2, .int y2)] → W p l e rm_X7_sweep s m args below meth c H locs 0 0 (MQ below (gQ D sz ws0 (ws_X7_sweep cI cJ cB a0 a_text a_out a_above a_below a_sum a_point a_pointRows a_pointSorts a_kind a_left a_right a_many a_bits a_rows a_table a_roots a_moved a_row thrown z.1 rooted size outSize points takenOut great at_ fault open_ wrong by_ sort variable_ pointCount z.2.1 z.2.2.1 z.2.2.2.1 z.2.2.2.2.1 z.2.2.2.2.2.1 z.2.2.2.2.2.2.1 z.2.2.2.2.2.2.2.1 z.2.2.2.2.2.2.2.2.1 z.2.2.2.2.2.2.2.2.2 row) none) args s 0 0 (va_A ws0 sz)) (F0 m 135 ls []) := by
  obtain ⟨F, hr, hlk, hNw⟩ := id CX
  have hx := F.1
  have hb := F.2.1
  have hown := F.2.2.2.1
  have hA : ∀ q, s.heap.size ≤ q → va_A ws0 sz q := fun q hq => Or.inr (hsz ▸ hq)
  intro n
  induction n with
  | zero =>
    intro used kind left_ right_ many bits rows table roots moved y1 y2 H locs ls h
    cases h
  | succ n ih =>
    intro used kind left_ right_ many bits rows table roots moved y1 y2 H locs ls h hP hD hS hl
    unfold f_X7_sweep_135 at h
    refine lv_iload_n hx hb dX7_sweep_135 rfl (lv_at hl 2 rfl) ?_
    refine lv_aload_n hx hb dX7_sweep_136 rfl (lv_at hl 0 rfl) ?_
    refine r_get F hK hP 0 8 rfl inW_X7 wm_1100 rfl (by decide) rfl dX7_sweep_137 ?_
    refine lv_icmp_ge (tgt := 323) hx hb dX7_sweep_140 (by decide) (fun c140 => ?_) (fun c140 => ?_)
    · have h := o_t c140 h
      refine lv_aload_n hx hb dX7_sweep_323 rfl (lv_at hl 0 rfl) ?_
      refine lv_iload_n hx hb dX7_sweep_324 rfl (lv_at hl 1 rfl) ?_
      refine r_put (wn := (ws_X7_sweep cI cJ cB a0 a_text a_out a_above a_below a_sum a_point a_pointRows a_pointSorts a_kind a_left a_right a_many a_bits a_rows a_table a_roots a_moved a_row thrown y1 rooted size outSize points takenOut great at_ fault open_ wrong by_ sort variable_ pointCount kind left_ right_ many bits rows table roots moved row)) F hK hP hD hS 0 8 rfl inW_X7 wm_1100 tyX7_ok nmX7 rfl rfl (by decide) rfl rfl (Nat.le_of_ble_eq_true rfl) rfl dX7_sweep_325 (fun H locs hP hD hS => ?_)
      refine lv_iconst (v := 0) hx hb dX7_sweep_328 (by decide) ?_
      refine lv_istore_n (lv' := [(2, .int 0), (0, .ref a0), (1, .int y1)]) hx hb dX7_sweep_329 rfl hl (by decide) rfl (fun ls hl => ?_)
      exact w_X7_sweep_330 CX hK hsz N y1 kind left_ right_ many bits rows table roots moved 0 _ _ _ h hP hD hS (lv_sub hl [1, 0] rfl)
    · have h := o_f c140 h
      refine lv_aload_n hx hb dX7_sweep_143 rfl (lv_at hl 0 rfl) ?_
      refine r_get F hK hP 0 11 rfl inW_X7 wm_1103 rfl (by decide) rfl dX7_sweep_144 ?_
      refine lv_iload_n hx hb dX7_sweep_147 rfl (lv_at hl 2 rfl) ?_
      obtain ⟨hi148, h⟩ := o_ix h
      refine va_iald hx hb hK hP 9 0 rfl rfl hi148 dX7_sweep_148 ?_
      refine lv_iconst (v := 1) hx hb dX7_sweep_149 (by decide) ?_
      refine lv_icmp_ne (tgt := 317) hx hb dX7_sweep_150 (by decide) (fun c150 => ?_) (fun c150 => ?_)
      · have h := o_f c150 h
        exact w_X7_sweep_317 CX hK hsz (hK135 := ih) used kind left_ right_ many bits rows table roots moved y1 y2 _ _ _ h hP hD hS (lv_sub hl [0, 1, 2] rfl)
      · have h := o_t c150 h
        refine lv_aload_n hx hb dX7_sweep_153 rfl (lv_at hl 0 rfl) ?_
        refine r_get F hK hP 0 1 rfl inW_X7 wm_1093 rfl (by decide) rfl dX7_sweep_154 ?_
        refine lv_iload_n hx hb dX7_sweep_157 rfl (lv_at hl 1 rfl) ?_
        refine lv_aload_n hx hb dX7_sweep_158 rfl (lv_at hl 0 rfl) ?_
        refine r_get F hK hP 0 1 rfl inW_X7 wm_1093 rfl (by decide) rfl dX7_sweep_159 ?_
        refine lv_iload_n hx hb dX7_sweep_162 rfl (lv_at hl 2 rfl) ?_
        obtain ⟨hi163, h⟩ := o_ix h
        refine va_iald hx hb hK hP 1 0 rfl rfl hi163 dX7_sweep_163 ?_
        obtain ⟨hi164, h⟩ := o_ix h
        refine r_iast (wn := (ws_X7_sweep cI cJ cB a0 a_text a_out a_above a_below a_sum a_point a_pointRows a_pointSorts a_kind a_left a_right a_many a_bits a_rows a_table a_roots a_moved a_row thrown used rooted size outSize points takenOut great at_ fault open_ wrong by_ sort variable_ pointCount (upd kind y1.toNatClampNeg (kind y2.toNatClampNeg)) left_ right_ many bits rows table roots moved row)) F hK hP hD hS 1 0 hi164 rfl rfl rfl dX7_sweep_164 (fun H locs hP hD hS => ?_)
        refine lv_aload_n hx hb dX7_sweep_165 rfl (lv_at hl 0 rfl) ?_
        refine r_get F hK hP 0 2 rfl inW_X7 wm_1094 rfl (by decide) rfl dX7_sweep_166 ?_
        refine lv_iload_n hx hb dX7_sweep_169 rfl (lv_at hl 1 rfl) ?_
        refine lv_aload_n hx hb dX7_sweep_170 rfl (lv_at hl 0 rfl) ?_
        refine r_get F hK hP 0 1 rfl inW_X7 wm_1093 rfl (by decide) rfl dX7_sweep_171 ?_
        refine lv_iload_n hx hb dX7_sweep_174 rfl (lv_at hl 2 rfl) ?_
        obtain ⟨hi175, h⟩ := o_ix h
        refine va_iald hx hb hK hP 1 0 rfl rfl hi175 dX7_sweep_175 ?_
        refine lv_iconst (v := 3) hx hb dX7_sweep_176 (by decide) ?_
        refine lv_icmp_eq (tgt := 190) hx hb dX7_sweep_177 (by decide) (fun c177 => ?_) (fun c177 => ?_)
        · have h := o_t c177 h
          exact w_X7_sweep_190 CX hK hsz (hK135 := ih) used (upd kind y1.toNatClampNeg (kind y2.toNatClampNeg)) left_ right_ many bits rows table roots moved y1 y2 y1 _ _ _ h hP hD hS (lv_sub hl [0, 1, 2] rfl)
        · have h := o_f c177 h
          refine lv_aload_n hx hb dX7_sweep_180 rfl (lv_at hl 0 rfl) ?_
          refine r_get F hK hP 0 1 rfl inW_X7 wm_1093 rfl (by decide) rfl dX7_sweep_181 ?_
          refine lv_iload_n hx hb dX7_sweep_184 rfl (lv_at hl 2 rfl) ?_
          obtain ⟨hi185, h⟩ := o_ix h
          refine va_iald hx hb hK hP 1 0 rfl rfl hi185 dX7_sweep_185 ?_
          refine lv_iconst (v := 4) hx hb dX7_sweep_186 (by decide) ?_
          refine lv_icmp_ne (tgt := 204) hx hb dX7_sweep_187 (by decide) (fun c187 => ?_) (fun c187 => ?_)
          · have h := o_f c187 h
            refine lv_aload_n hx hb dX7_sweep_204 rfl (lv_at hl 0 rfl) ?_
            refine r_get F hK hP 0 2 rfl inW_X7 wm_1094 rfl (by decide) rfl dX7_sweep_205 ?_
            refine lv_iload_n hx hb dX7_sweep_208 rfl (lv_at hl 2 rfl) ?_
            obtain ⟨hi209, h⟩ := o_ix h
            refine va_iald hx hb hK hP 2 0 rfl rfl hi209 dX7_sweep_209 ?_
            exact w_X7_sweep_210 CX hK hsz (hK135 := ih) used (upd kind y1.toNatClampNeg (kind y2.toNatClampNeg)) left_ right_ many bits rows table roots moved y1 y2 y1 (left_ y2.toNatClampNeg) _ _ _ h hP hD hS (lv_sub hl [0, 1, 2] rfl)
          · have h := o_t c187 h
            exact w_X7_sweep_190 CX hK hsz (hK135 := ih) used (upd kind y1.toNatClampNeg (kind y2.toNatClampNeg)) left_ right_ many bits rows table roots moved y1 y2 y1 _ _ _ h hP hD hS (lv_sub hl [0, 1, 2] rfl)
set_option maxHeartbeats 4000000 in
set_option maxRecDepth 100000 in
theorem w_X7_sweep_67 (CX : Cx p m c cX7_sweep 4 s args x0 RX7 meth none) (hK : va_K D vwCl (ty0 cI cJ cB) s) (hsz : s.heap.size = sz) : ∀ (n : Nat), ∀ (used : Int32) (kind : Nat → Int32) (left_ : Nat → Int32) (right_ : Nat → Int32) (many : Nat → Int32) (bits : Nat → Int32) (rows : Nat → Int32) (table : Nat → Int32) (roots : Nat → Int32) (moved : Nat → Int32) (y1 : Int32) (H : Heap) (locs : List Loc) (ls : Array Slot), f_X7_sweep_67 N n used rooted kind left_ right_ many bits rows table roots moved row y1 = some z → va_P D vwCl (ws_X7_sweep cI cJ cB a0 a_text a_out a_above a_below a_sum a_point a_pointRows a_pointSorts a_kind a_left a_right a_many a_bits a_rows a_table a_roots a_moved a_row thrown used rooted size outSize points takenOut great at_ fault open_ wrong by_ sort variable_ pointCount kind left_ right_ many bits rows table roots moved row) H → va_D (va_A ws0 sz) (ws_X7_sweep cI cJ cB a0 a_text a_out a_above a_below a_sum a_point a_pointRows a_pointSorts a_kind a_left a_right a_many a_bits a_rows a_table a_roots a_moved a_row thrown used rooted size outSize points takenOut great at_ fault open_ wrong by_ sort variable_ pointCount kind left_ right_ many bits rows table roots moved row) → va_S (va_A ws0 sz) s.heap H locs → lv_has ls 4 [(0, .ref a0), (1, .int y1)] → W p l e rm_X7_sweep s m args below meth c H locs 0 0 (MQ below (gQ D sz ws0 (ws_X7_sweep cI cJ cB a0 a_text a_out a_above a_below a_sum a_point a_pointRows a_pointSorts a_kind a_left a_right a_many a_bits a_rows a_table a_roots a_moved a_row thrown z.1 rooted size outSize points takenOut great at_ fault open_ wrong by_ sort variable_ pointCount z.2.1 z.2.2.1 z.2.2.2.1 z.2.2.2.2.1 z.2.2.2.2.2.1 z.2.2.2.2.2.2.1 z.2.2.2.2.2.2.2.1 z.2.2.2.2.2.2.2.2.1 z.2.2.2.2.2.2.2.2.2 row) none) args s 0 0 (va_A ws0 sz)) (F0 m 67 ls []) := by
  obtain ⟨F, hr, hlk, hNw⟩ := id CX
  have hx := F.1
  have hb := F.2.1
  have hown := F.2.2.2.1
  have hA : ∀ q, s.heap.size ≤ q → va_A ws0 sz q := fun q hq => Or.inr (hsz ▸ hq)
  intro n
  induction n with
  | zero =>
    intro used kind left_ right_ many bits rows table roots moved y1 H locs ls h
    cases h
  | succ n ih =>
    intro used kind left_ right_ many bits rows table roots moved y1 H locs ls h hP hD hS hl
    unfold f_X7_sweep_67 at h
    refine lv_iload_n hx hb dX7_sweep_67 rfl (lv_at hl 1 rfl) ?_
    refine lv_if_lt (tgt := 131) hx hb dX7_sweep_68 (by decide) (fun c68 => ?_) (fun c68 => ?_)
    · have h := o_t c68 h
      refine lv_iconst (v := 0) hx hb dX7_sweep_131 (by decide) ?_
      refine lv_istore_n (lv' := [(1, .int 0), (0, .ref a0)]) hx hb dX7_sweep_132 rfl hl (by decide) rfl (fun ls hl => ?_)
      refine lv_iconst (v := 0) hx hb dX7_sweep_133 (by decide) ?_
      refine lv_istore_n (lv' := [(2, .int 0), (1, .int 0), (0, .ref a0)]) hx hb dX7_sweep_134 rfl hl (by decide) rfl (fun ls hl => ?_)
      exact w_X7_sweep_135 CX hK hsz N used kind left_ right_ many bits rows table roots moved 0 0 _ _ _ h hP hD hS (lv_sub hl [2, 1, 0] rfl)
    · have h := o_f c68 h
      refine lv_aload_n hx hb dX7_sweep_71 rfl (lv_at hl 0 rfl) ?_
      refine r_get F hK hP 0 11 rfl inW_X7 wm_1103 rfl (by decide) rfl dX7_sweep_72 ?_
      refine lv_iload_n hx hb dX7_sweep_75 rfl (lv_at hl 1 rfl) ?_
      obtain ⟨hi76, h⟩ := o_ix h
      refine va_iald hx hb hK hP 9 0 rfl rfl hi76 dX7_sweep_76 ?_
      refine lv_iconst (v := 1) hx hb dX7_sweep_77 (by decide) ?_
      refine lv_icmp_ne (tgt := 125) hx hb dX7_sweep_78 (by decide) (fun c78 => ?_) (fun c78 => ?_)
      · have h := o_f c78 h
        exact w_X7_sweep_125 CX hK hsz (hK67 := ih) used kind left_ right_ many bits rows table roots moved y1 _ _ _ h hP hD hS (lv_sub hl [0, 1] rfl)
      · have h := o_t c78 h
        refine lv_aload_n hx hb dX7_sweep_81 rfl (lv_at hl 0 rfl) ?_
        refine r_get F hK hP 0 1 rfl inW_X7 wm_1093 rfl (by decide) rfl dX7_sweep_82 ?_
        refine lv_iload_n hx hb dX7_sweep_85 rfl (lv_at hl 1 rfl) ?_
        obtain ⟨hi86, h⟩ := o_ix h
        refine va_iald hx hb hK hP 1 0 rfl rfl hi86 dX7_sweep_86 ?_
        refine lv_iconst (v := 3) hx hb dX7_sweep_87 (by decide) ?_
        refine lv_icmp_lt (tgt := 125) hx hb dX7_sweep_88 (by decide) (fun c88 => ?_) (fun c88 => ?_)
        · have h := o_t c88 h
          exact w_X7_sweep_125 CX hK hsz (hK67 := ih) used kind left_ right_ many bits rows table roots moved y1 _ _ _ h hP hD hS (lv_sub hl [0, 1] rfl)
        · have h := o_f c88 h
          refine lv_aload_n hx hb dX7_sweep_91 rfl (lv_at hl 0 rfl) ?_
          refine r_get F hK hP 0 11 rfl inW_X7 wm_1103 rfl (by decide) rfl dX7_sweep_92 ?_
          refine lv_aload_n hx hb dX7_sweep_95 rfl (lv_at hl 0 rfl) ?_
          refine r_get F hK hP 0 3 rfl inW_X7 wm_1095 rfl (by decide) rfl dX7_sweep_96 ?_
          refine lv_iload_n hx hb dX7_sweep_99 rfl (lv_at hl 1 rfl) ?_
          obtain ⟨hi100, h⟩ := o_ix h
          refine va_iald hx hb hK hP 3 0 rfl rfl hi100 dX7_sweep_100 ?_
          refine lv_iconst (v := 1) hx hb dX7_sweep_101 (by decide) ?_
          obtain ⟨hi102, h⟩ := o_ix h
          refine r_iast (wn := (ws_X7_sweep cI cJ cB a0 a_text a_out a_above a_below a_sum a_point a_pointRows a_pointSorts a_kind a_left a_right a_many a_bits a_rows a_table a_roots a_moved a_row thrown used rooted size outSize points takenOut great at_ fault open_ wrong by_ sort variable_ pointCount kind left_ right_ many bits rows table roots (upd moved (right_ y1.toNatClampNeg).toNatClampNeg 1) row)) F hK hP hD hS 9 0 hi102 rfl rfl rfl dX7_sweep_102 (fun H locs hP hD hS => ?_)
          refine lv_aload_n hx hb dX7_sweep_103 rfl (lv_at hl 0 rfl) ?_
          refine r_get F hK hP 0 1 rfl inW_X7 wm_1093 rfl (by decide) rfl dX7_sweep_104 ?_
          refine lv_iload_n hx hb dX7_sweep_107 rfl (lv_at hl 1 rfl) ?_
          obtain ⟨hi108, h⟩ := o_ix h
          refine va_iald hx hb hK hP 1 0 rfl rfl hi108 dX7_sweep_108 ?_
          refine lv_iconst (v := 5) hx hb dX7_sweep_109 (by decide) ?_
          refine lv_icmp_ge (tgt := 125) hx hb dX7_sweep_110 (by decide) (fun c110 => ?_) (fun c110 => ?_)
          · have h := o_t c110 h
            exact w_X7_sweep_125 CX hK hsz (hK67 := ih) used kind left_ right_ many bits rows table roots (upd moved (right_ y1.toNatClampNeg).toNatClampNeg 1) y1 _ _ _ h hP hD hS (lv_sub hl [0, 1] rfl)
          · have h := o_f c110 h
            refine lv_aload_n hx hb dX7_sweep_113 rfl (lv_at hl 0 rfl) ?_
            refine r_get F hK hP 0 11 rfl inW_X7 wm_1103 rfl (by decide) rfl dX7_sweep_114 ?_
            refine lv_aload_n hx hb dX7_sweep_117 rfl (lv_at hl 0 rfl) ?_
            refine r_get F hK hP 0 2 rfl inW_X7 wm_1094 rfl (by decide) rfl dX7_sweep_118 ?_
            refine lv_iload_n hx hb dX7_sweep_121 rfl (lv_at hl 1 rfl) ?_
            obtain ⟨hi122, h⟩ := o_ix h
            refine va_iald hx hb hK hP 2 0 rfl rfl hi122 dX7_sweep_122 ?_
            refine lv_iconst (v := 1) hx hb dX7_sweep_123 (by decide) ?_
            obtain ⟨hi124, h⟩ := o_ix h
            refine r_iast (wn := (ws_X7_sweep cI cJ cB a0 a_text a_out a_above a_below a_sum a_point a_pointRows a_pointSorts a_kind a_left a_right a_many a_bits a_rows a_table a_roots a_moved a_row thrown used rooted size outSize points takenOut great at_ fault open_ wrong by_ sort variable_ pointCount kind left_ right_ many bits rows table roots (upd (upd moved (right_ y1.toNatClampNeg).toNatClampNeg 1) (left_ y1.toNatClampNeg).toNatClampNeg 1) row)) F hK hP hD hS 9 0 hi124 rfl rfl rfl dX7_sweep_124 (fun H locs hP hD hS => ?_)
            exact w_X7_sweep_125 CX hK hsz (hK67 := ih) used kind left_ right_ many bits rows table roots (upd (upd moved (right_ y1.toNatClampNeg).toNatClampNeg 1) (left_ y1.toNatClampNeg).toNatClampNeg 1) y1 _ _ _ h hP hD hS (lv_sub hl [0, 1] rfl)
set_option maxHeartbeats 4000000 in
set_option maxRecDepth 100000 in
theorem w_X7_sweep_34 (CX : Cx p m c cX7_sweep 4 s args x0 RX7 meth none) (hK : va_K D vwCl (ty0 cI cJ cB) s) (hsz : s.heap.size = sz) : ∀ (n : Nat), ∀ (used : Int32) (kind : Nat → Int32) (left_ : Nat → Int32) (right_ : Nat → Int32) (many : Nat → Int32) (bits : Nat → Int32) (rows : Nat → Int32) (table : Nat → Int32) (roots : Nat → Int32) (moved : Nat → Int32) (y1 : Int32) (H : Heap) (locs : List Loc) (ls : Array Slot), f_X7_sweep_34 N n used rooted kind left_ right_ many bits rows table roots moved row y1 = some z → va_P D vwCl (ws_X7_sweep cI cJ cB a0 a_text a_out a_above a_below a_sum a_point a_pointRows a_pointSorts a_kind a_left a_right a_many a_bits a_rows a_table a_roots a_moved a_row thrown used rooted size outSize points takenOut great at_ fault open_ wrong by_ sort variable_ pointCount kind left_ right_ many bits rows table roots moved row) H → va_D (va_A ws0 sz) (ws_X7_sweep cI cJ cB a0 a_text a_out a_above a_below a_sum a_point a_pointRows a_pointSorts a_kind a_left a_right a_many a_bits a_rows a_table a_roots a_moved a_row thrown used rooted size outSize points takenOut great at_ fault open_ wrong by_ sort variable_ pointCount kind left_ right_ many bits rows table roots moved row) → va_S (va_A ws0 sz) s.heap H locs → lv_has ls 4 [(0, .ref a0), (1, .int y1)] → W p l e rm_X7_sweep s m args below meth c H locs 0 0 (MQ below (gQ D sz ws0 (ws_X7_sweep cI cJ cB a0 a_text a_out a_above a_below a_sum a_point a_pointRows a_pointSorts a_kind a_left a_right a_many a_bits a_rows a_table a_roots a_moved a_row thrown z.1 rooted size outSize points takenOut great at_ fault open_ wrong by_ sort variable_ pointCount z.2.1 z.2.2.1 z.2.2.2.1 z.2.2.2.2.1 z.2.2.2.2.2.1 z.2.2.2.2.2.2.1 z.2.2.2.2.2.2.2.1 z.2.2.2.2.2.2.2.2.1 z.2.2.2.2.2.2.2.2.2 row) none) args s 0 0 (va_A ws0 sz)) (F0 m 34 ls []) := by
  obtain ⟨F, hr, hlk, hNw⟩ := id CX
  have hx := F.1
  have hb := F.2.1
  have hown := F.2.2.2.1
  have hA : ∀ q, s.heap.size ≤ q → va_A ws0 sz q := fun q hq => Or.inr (hsz ▸ hq)
  intro n
  induction n with
  | zero =>
    intro used kind left_ right_ many bits rows table roots moved y1 H locs ls h
    cases h
  | succ n ih =>
    intro used kind left_ right_ many bits rows table roots moved y1 H locs ls h hP hD hS hl
    unfold f_X7_sweep_34 at h
    refine lv_iload_n hx hb dX7_sweep_34 rfl (lv_at hl 1 rfl) ?_
    refine lv_aload_n hx hb dX7_sweep_35 rfl (lv_at hl 0 rfl) ?_
    refine r_get F hK hP 0 10 rfl inW_X7 wm_1102 rfl (by decide) rfl dX7_sweep_36 ?_
    refine lv_icmp_ge (tgt := 60) hx hb dX7_sweep_39 (by decide) (fun c39 => ?_) (fun c39 => ?_)
    · have h := o_t c39 h
      refine lv_aload_n hx hb dX7_sweep_60 rfl (lv_at hl 0 rfl) ?_
      refine r_get F hK hP 0 8 rfl inW_X7 wm_1100 rfl (by decide) rfl dX7_sweep_61 ?_
      refine lv_iconst (v := 1) hx hb dX7_sweep_64 (by decide) ?_
      refine lv_isub hx hb dX7_sweep_65 ?_
      refine lv_istore_n (lv' := [(1, .int (used - 1)), (0, .ref a0)]) hx hb dX7_sweep_66 rfl hl (by decide) rfl (fun ls hl => ?_)
      exact w_X7_sweep_67 CX hK hsz N used kind left_ right_ many bits rows table roots moved (used - 1) _ _ _ h hP hD hS (lv_sub hl [1, 0] rfl)
    · have h := o_f c39 h
      refine lv_aload_n hx hb dX7_sweep_42 rfl (lv_at hl 0 rfl) ?_
      refine r_get F hK hP 0 11 rfl inW_X7 wm_1103 rfl (by decide) rfl dX7_sweep_43 ?_
      refine lv_aload_n hx hb dX7_sweep_46 rfl (lv_at hl 0 rfl) ?_
      refine r_get F hK hP 0 9 rfl inW_X7 wm_1101 rfl (by decide) rfl dX7_sweep_47 ?_
      refine lv_iload_n hx hb dX7_sweep_50 rfl (lv_at hl 1 rfl) ?_
      obtain ⟨hi51, h⟩ := o_ix h
      refine va_iald hx hb hK hP 8 0 rfl rfl hi51 dX7_sweep_51 ?_
      refine lv_iconst (v := 1) hx hb dX7_sweep_52 (by decide) ?_
      obtain ⟨hi53, h⟩ := o_ix h
      refine r_iast (wn := (ws_X7_sweep cI cJ cB a0 a_text a_out a_above a_below a_sum a_point a_pointRows a_pointSorts a_kind a_left a_right a_many a_bits a_rows a_table a_roots a_moved a_row thrown used rooted size outSize points takenOut great at_ fault open_ wrong by_ sort variable_ pointCount kind left_ right_ many bits rows table roots (upd moved (roots y1.toNatClampNeg).toNatClampNeg 1) row)) F hK hP hD hS 9 0 hi53 rfl rfl rfl dX7_sweep_53 (fun H locs hP hD hS => ?_)
      refine lv_iinc (v := y1 + 1) (lv' := [(1, .int (y1 + 1)), (0, .ref a0)]) hx hb dX7_sweep_54 hl (k := 1) rfl rfl (by decide) rfl (fun ls hl => ?_)
      refine lv_goto (tgt := 34) hx hb dX7_sweep_57 (by decide) ?_
      exact ih used kind left_ right_ many bits rows table roots (upd moved (roots y1.toNatClampNeg).toNatClampNeg 1) (y1 + 1) _ _ _ h hP hD hS (lv_sub hl [1, 0] rfl)
set_option maxHeartbeats 4000000 in
set_option maxRecDepth 100000 in
theorem w_X7_sweep_2 (CX : Cx p m c cX7_sweep 4 s args x0 RX7 meth none) (hK : va_K D vwCl (ty0 cI cJ cB) s) (hsz : s.heap.size = sz) : ∀ (n : Nat), ∀ (used : Int32) (kind : Nat → Int32) (left_ : Nat → Int32) (right_ : Nat → Int32) (many : Nat → Int32) (bits : Nat → Int32) (rows : Nat → Int32) (table : Nat → Int32) (roots : Nat → Int32) (moved : Nat → Int32) (y1 : Int32) (H : Heap) (locs : List Loc) (ls : Array Slot), f_X7_sweep_2 N n used rooted kind left_ right_ many bits rows table roots moved row y1 = some z → va_P D vwCl (ws_X7_sweep cI cJ cB a0 a_text a_out a_above a_below a_sum a_point a_pointRows a_pointSorts a_kind a_left a_right a_many a_bits a_rows a_table a_roots a_moved a_row thrown used rooted size outSize points takenOut great at_ fault open_ wrong by_ sort variable_ pointCount kind left_ right_ many bits rows table roots moved row) H → va_D (va_A ws0 sz) (ws_X7_sweep cI cJ cB a0 a_text a_out a_above a_below a_sum a_point a_pointRows a_pointSorts a_kind a_left a_right a_many a_bits a_rows a_table a_roots a_moved a_row thrown used rooted size outSize points takenOut great at_ fault open_ wrong by_ sort variable_ pointCount kind left_ right_ many bits rows table roots moved row) → va_S (va_A ws0 sz) s.heap H locs → lv_has ls 4 [(0, .ref a0), (1, .int y1)] → W p l e rm_X7_sweep s m args below meth c H locs 0 0 (MQ below (gQ D sz ws0 (ws_X7_sweep cI cJ cB a0 a_text a_out a_above a_below a_sum a_point a_pointRows a_pointSorts a_kind a_left a_right a_many a_bits a_rows a_table a_roots a_moved a_row thrown z.1 rooted size outSize points takenOut great at_ fault open_ wrong by_ sort variable_ pointCount z.2.1 z.2.2.1 z.2.2.2.1 z.2.2.2.2.1 z.2.2.2.2.2.1 z.2.2.2.2.2.2.1 z.2.2.2.2.2.2.2.1 z.2.2.2.2.2.2.2.2.1 z.2.2.2.2.2.2.2.2.2 row) none) args s 0 0 (va_A ws0 sz)) (F0 m 2 ls []) := by
  obtain ⟨F, hr, hlk, hNw⟩ := id CX
  have hx := F.1
  have hb := F.2.1
  have hown := F.2.2.2.1
  have hA : ∀ q, s.heap.size ≤ q → va_A ws0 sz q := fun q hq => Or.inr (hsz ▸ hq)
  intro n
  induction n with
  | zero =>
    intro used kind left_ right_ many bits rows table roots moved y1 H locs ls h
    cases h
  | succ n ih =>
    intro used kind left_ right_ many bits rows table roots moved y1 H locs ls h hP hD hS hl
    unfold f_X7_sweep_2 at h
    refine lv_iload_n hx hb dX7_sweep_2 rfl (lv_at hl 1 rfl) ?_
    refine lv_aload_n hx hb dX7_sweep_3 rfl (lv_at hl 0 rfl) ?_
    refine r_get F hK hP 0 8 rfl inW_X7 wm_1100 rfl (by decide) rfl dX7_sweep_4 ?_
    refine lv_icmp_ge (tgt := 32) hx hb dX7_sweep_7 (by decide) (fun c7 => ?_) (fun c7 => ?_)
    · have h := o_t c7 h
      refine lv_iconst (v := 0) hx hb dX7_sweep_32 (by decide) ?_
      refine lv_istore_n (lv' := [(1, .int 0), (0, .ref a0)]) hx hb dX7_sweep_33 rfl hl (by decide) rfl (fun ls hl => ?_)
      exact w_X7_sweep_34 CX hK hsz N used kind left_ right_ many bits rows table roots moved 0 _ _ _ h hP hD hS (lv_sub hl [1, 0] rfl)
    · have h := o_f c7 h
      refine lv_aload_n hx hb dX7_sweep_10 rfl (lv_at hl 0 rfl) ?_
      refine r_get F hK hP 0 11 rfl inW_X7 wm_1103 rfl (by decide) rfl dX7_sweep_11 ?_
      refine lv_iload_n hx hb dX7_sweep_14 rfl (lv_at hl 1 rfl) ?_
      refine lv_iload_n hx hb dX7_sweep_15 rfl (lv_at hl 1 rfl) ?_
      refine lv_iconst (v := 2) hx hb dX7_sweep_16 (by decide) ?_
      refine lv_icmp_ge (tgt := 24) hx hb dX7_sweep_17 (by decide) (fun c17 => ?_) (fun c17 => ?_)
      · have h := o_t c17 h
        refine lv_iconst (v := 0) hx hb dX7_sweep_24 (by decide) ?_
        exact w_X7_sweep_25 CX hK hsz (hK2 := ih) used kind left_ right_ many bits rows table roots moved y1 y1 0 _ _ _ h hP hD hS (lv_sub hl [0, 1] rfl)
      · have h := o_f c17 h
        refine lv_iconst (v := 1) hx hb dX7_sweep_20 (by decide) ?_
        refine lv_goto (tgt := 25) hx hb dX7_sweep_21 (by decide) ?_
        exact w_X7_sweep_25 CX hK hsz (hK2 := ih) used kind left_ right_ many bits rows table roots moved y1 y1 1 _ _ _ h hP hD hS (lv_sub hl [0, 1] rfl)
end G_X7_sweep
set_option maxHeartbeats 4000000 in
set_option maxRecDepth 100000 in
theorem c_X7_sweep (l : Launch) (D : va_G) (cI cJ cB : ClassId) (a0 a_text a_out a_above a_below a_sum a_point a_pointRows a_pointSorts a_kind a_left a_right a_many a_bits a_rows a_table a_roots a_moved a_row : Nat) (sz : Nat) (thrown : Int32) (used : Int32) (rooted : Int32) (size : Int32) (outSize : Int32) (points : Int32) (takenOut : Int32) (great : Int32) (at_ : Int32) (fault : Int32) (open_ : Int32) (wrong : Int32) (by_ : Int64) (sort : Int32) (variable_ : Int32) (pointCount : Int32) (kind : Nat → Int32) (left_ : Nat → Int32) (right_ : Nat → Int32) (many : Nat → Int32) (bits : Nat → Int32) (rows : Nat → Int32) (table : Nat → Int32) (roots : Nat → Int32) (moved : Nat → Int32) (row : Nat → Int64) (N : Nat) {z : (Int32) × (Nat → Int32) × (Nat → Int32) × (Nat → Int32) × (Nat → Int32) × (Nat → Int32) × (Nat → Int32) × (Nat → Int32) × (Nat → Int32) × (Nat → Int32)} (h : f_X7_sweep N used rooted kind left_ right_ many bits rows table roots moved row = some z) : Mg l yX7_sweep cX7_sweep 4 none rm_X7_sweep D (ty0 cI cJ cB) [.ref a0] sz (ws_X7_sweep cI cJ cB a0 a_text a_out a_above a_below a_sum a_point a_pointRows a_pointSorts a_kind a_left a_right a_many a_bits a_rows a_table a_roots a_moved a_row thrown used rooted size outSize points takenOut great at_ fault open_ wrong by_ sort variable_ pointCount kind left_ right_ many bits rows table roots moved row) none (ws_X7_sweep cI cJ cB a0 a_text a_out a_above a_below a_sum a_point a_pointRows a_pointSorts a_kind a_left a_right a_many a_bits a_rows a_table a_roots a_moved a_row thrown z.1 rooted size outSize points takenOut great at_ fault open_ wrong by_ sort variable_ pointCount z.2.1 z.2.2.1 z.2.2.2.1 z.2.2.2.2.1 z.2.2.2.2.2.1 z.2.2.2.2.2.2.1 z.2.2.2.2.2.2.2.1 z.2.2.2.2.2.2.2.2.1 z.2.2.2.2.2.2.2.2.2 row) := by
  refine Mg.of (by decide) (Nat.le_of_ble_eq_true rfl) ?_
  intro p e s m below meth c CX hK hsz hP hD ls hl
  have CX : Cx p m c cX7_sweep 4 s ([.ref a0] : List Value).toArray (Cond.code yX7_sweep cX7_sweep 4 none) RX7 meth none := CX
  obtain ⟨F, hr, hlk, hNw⟩ := id CX
  have hx := F.1
  have hb := F.2.1
  have hown := F.2.2.2.1
  have hl : lv_has ls 4 [(0, .ref a0)] := hl
  have hS : va_S (va_A (ws_X7_sweep cI cJ cB a0 a_text a_out a_above a_below a_sum a_point a_pointRows a_pointSorts a_kind a_left a_right a_many a_bits a_rows a_table a_roots a_moved a_row thrown used rooted size outSize points takenOut great at_ fault open_ wrong by_ sort variable_ pointCount kind left_ right_ many bits rows table roots moved row) sz) s.heap s.heap [] := va_S.rf
  have hA : ∀ q, s.heap.size ≤ q → va_A (ws_X7_sweep cI cJ cB a0 a_text a_out a_above a_below a_sum a_point a_pointRows a_pointSorts a_kind a_left a_right a_many a_bits a_rows a_table a_roots a_moved a_row thrown used rooted size outSize points takenOut great at_ fault open_ wrong by_ sort variable_ pointCount kind left_ right_ many bits rows table roots moved row) sz q := fun q hq => Or.inr (hsz ▸ hq)
  unfold f_X7_sweep at h
  refine lv_iconst (v := 0) hx hb dX7_sweep_0 (by decide) ?_
  refine lv_istore_n (lv' := [(1, .int 0), (0, .ref a0)]) hx hb dX7_sweep_1 rfl hl (by decide) rfl (fun ls hl => ?_)
  exact w_X7_sweep_2 CX hK hsz N used kind left_ right_ many bits rows table roots moved 0 _ _ _ h hP hD hS (lv_sub hl [1, 0] rfl)
section G_X7_sweepIfFull
abbrev ws_X7_sweepIfFull (cI cJ cB : ClassId) (a0 a_text a_out a_above a_below a_sum a_point a_pointRows a_pointSorts a_kind a_left a_right a_many a_bits a_rows a_table a_roots a_moved a_row : Nat) (thrown : Int32) (used : Int32) (rooted : Int32) (size : Int32) (outSize : Int32) (points : Int32) (takenOut : Int32) (great : Int32) (at_ : Int32) (fault : Int32) (open_ : Int32) (wrong : Int32) (by_ : Int64) (sort : Int32) (variable_ : Int32) (pointCount : Int32) (kind : Nat → Int32) (left_ : Nat → Int32) (right_ : Nat → Int32) (many : Nat → Int32) (bits : Nat → Int32) (rows : Nat → Int32) (table : Nat → Int32) (roots : Nat → Int32) (moved : Nat → Int32) (row : Nat → Int64) : va_W := [(a0, .inr (9, [.int thrown, .ref a_kind, .ref a_left, .ref a_right, .ref a_many, .ref a_bits, .ref a_rows, .ref a_table, .int used, .ref a_roots, .int rooted, .ref a_moved, .ref a_text, .int size, .ref a_out, .int outSize, .ref a_above, .ref a_below, .int points, .int takenOut, .int great, .ref a_row, .int at_, .int fault, .int open_, .int wrong, .ref a_sum, .ref a_point, .long by_, .int sort, .int variable_, .ref a_pointRows, .ref a_pointSorts, .int pointCount])), (a_kind, .inl (cI, 24000, .inl kind)), (a_left, .inl (cI, 24000, .inl left_)), (a_right, .inl (cI, 24000, .inl right_)), (a_many, .inl (cI, 24000, .inl many)), (a_bits, .inl (cI, 24000, .inl bits)), (a_rows, .inl (cI, 216000, .inl rows)), (a_table, .inl (cI, 65536, .inl table)), (a_roots, .inl (cI, 2000, .inl roots)), (a_moved, .inl (cI, 24000, .inl moved)), (a_row, .inl (cJ, 9, .inr (.inl row)))]
abbrev rm_X7_sweepIfFull : Room := { frames := 2, cells := 0, slots := 0, locals := 50 }
def f_X7_sweepIfFull_14 (N : Nat) (used : Int32) (rooted : Int32) (kind : Nat → Int32) (left_ : Nat → Int32) (right_ : Nat → Int32) (many : Nat → Int32) (bits : Nat → Int32) (rows : Nat → Int32) (table : Nat → Int32) (roots : Nat → Int32) (moved : Nat → Int32) (row : Nat → Int64) : Option ((Int32) × (Nat → Int32) × (Nat → Int32) × (Nat → Int32) × (Nat → Int32) × (Nat → Int32) × (Nat → Int32) × (Nat → Int32) × (Nat → Int32) × (Nat → Int32)) := some (used, kind, left_, right_, many, bits, rows, table, roots, moved)
def f_X7_sweepIfFull (N : Nat) (used : Int32) (rooted : Int32) (kind : Nat → Int32) (left_ : Nat → Int32) (right_ : Nat → Int32) (many : Nat → Int32) (bits : Nat → Int32) (rows : Nat → Int32) (table : Nat → Int32) (roots : Nat → Int32) (moved : Nat → Int32) (row : Nat → Int64) : Option ((Int32) × (Nat → Int32) × (Nat → Int32) × (Nat → Int32) × (Nat → Int32) × (Nat → Int32) × (Nat → Int32) × (Nat → Int32) × (Nat → Int32) × (Nat → Int32)) := ifb (used ≤ 20000) (f_X7_sweepIfFull_14 N used rooted kind left_ right_ many bits rows table roots moved row) ((f_X7_sweep N used rooted kind left_ right_ many bits rows table roots moved row).bind (fun z11 => f_X7_sweepIfFull_14 N z11.1 rooted z11.2.1 z11.2.2.1 z11.2.2.2.1 z11.2.2.2.2.1 z11.2.2.2.2.2.1 z11.2.2.2.2.2.2.1 z11.2.2.2.2.2.2.2.1 z11.2.2.2.2.2.2.2.2.1 z11.2.2.2.2.2.2.2.2.2 row))
variable {p : Program} {l : Launch} {e : Env} {s : State} {m : MethodId} {below : List Frame} {meth : Method} {c : Code} {args : Array Value} {x0 : Cond} {D : va_G} {cI cJ cB : ClassId} {sz N : Nat} {ws0 : va_W} {a0 a_text a_out a_above a_below a_sum a_point a_pointRows a_pointSorts a_kind a_left a_right a_many a_bits a_rows a_table a_roots a_moved a_row : Nat} {thrown : Int32} {rooted : Int32} {size : Int32} {outSize : Int32} {points : Int32} {takenOut : Int32} {great : Int32} {at_ : Int32} {fault : Int32} {open_ : Int32} {wrong : Int32} {by_ : Int64} {sort : Int32} {variable_ : Int32} {pointCount : Int32} {row : Nat → Int64} {z : (Int32) × (Nat → Int32) × (Nat → Int32) × (Nat → Int32) × (Nat → Int32) × (Nat → Int32) × (Nat → Int32) × (Nat → Int32) × (Nat → Int32) × (Nat → Int32)}
set_option maxHeartbeats 4000000 in
set_option maxRecDepth 100000 in
theorem w_X7_sweepIfFull_14 (CX : Cx p m c cX7_sweepIfFull 1 s args x0 RX7 meth none) (hK : va_K D vwCl (ty0 cI cJ cB) s) (hsz : s.heap.size = sz) : ∀ (used : Int32) (kind : Nat → Int32) (left_ : Nat → Int32) (right_ : Nat → Int32) (many : Nat → Int32) (bits : Nat → Int32) (rows : Nat → Int32) (table : Nat → Int32) (roots : Nat → Int32) (moved : Nat → Int32) (H : Heap) (locs : List Loc) (ls : Array Slot), f_X7_sweepIfFull_14 N used rooted kind left_ right_ many bits rows table roots moved row = some z → va_P D vwCl (ws_X7_sweepIfFull cI cJ cB a0 a_text a_out a_above a_below a_sum a_point a_pointRows a_pointSorts a_kind a_left a_right a_many a_bits a_rows a_table a_roots a_moved a_row thrown used rooted size outSize points takenOut great at_ fault open_ wrong by_ sort variable_ pointCount kind left_ right_ many bits rows table roots moved row) H → va_D (va_A ws0 sz) (ws_X7_sweepIfFull cI cJ cB a0 a_text a_out a_above a_below a_sum a_point a_pointRows a_pointSorts a_kind a_left a_right a_many a_bits a_rows a_table a_roots a_moved a_row thrown used rooted size outSize points takenOut great at_ fault open_ wrong by_ sort variable_ pointCount kind left_ right_ many bits rows table roots moved row) → va_S (va_A ws0 sz) s.heap H locs → lv_has ls 1 [] → W p l e rm_X7_sweepIfFull s m args below meth c H locs 0 0 (MQ below (gQ D sz ws0 (ws_X7_sweepIfFull cI cJ cB a0 a_text a_out a_above a_below a_sum a_point a_pointRows a_pointSorts a_kind a_left a_right a_many a_bits a_rows a_table a_roots a_moved a_row thrown z.1 rooted size outSize points takenOut great at_ fault open_ wrong by_ sort variable_ pointCount z.2.1 z.2.2.1 z.2.2.2.1 z.2.2.2.2.1 z.2.2.2.2.2.1 z.2.2.2.2.2.2.1 z.2.2.2.2.2.2.2.1 z.2.2.2.2.2.2.2.2.1 z.2.2.2.2.2.2.2.2.2 row) none) args s 0 0 (va_A ws0 sz)) (F0 m 14 ls []) := by
  obtain ⟨F, hr, hlk, hNw⟩ := id CX
  have hx := F.1
  have hb := F.2.1
  have hown := F.2.2.2.1
  have hA : ∀ q, s.heap.size ≤ q → va_A ws0 sz q := fun q hq => Or.inr (hsz ▸ hq)
  intro used kind left_ right_ many bits rows table roots moved H locs ls h hP hD hS hl
  unfold f_X7_sweepIfFull_14 at h
  obtain rfl := Option.some.inj h
  exact r_vret F hr hlk dX7_sweepIfFull_14 hsz hP hD hS
end G_X7_sweepIfFull
set_option maxHeartbeats 4000000 in
set_option maxRecDepth 100000 in
theorem c_X7_sweepIfFull (l : Launch) (D : va_G) (cI cJ cB : ClassId) (a0 a_text a_out a_above a_below a_sum a_point a_pointRows a_pointSorts a_kind a_left a_right a_many a_bits a_rows a_table a_roots a_moved a_row : Nat) (sz : Nat) (thrown : Int32) (used : Int32) (rooted : Int32) (size : Int32) (outSize : Int32) (points : Int32) (takenOut : Int32) (great : Int32) (at_ : Int32) (fault : Int32) (open_ : Int32) (wrong : Int32) (by_ : Int64) (sort : Int32) (variable_ : Int32) (pointCount : Int32) (kind : Nat → Int32) (left_ : Nat → Int32) (right_ : Nat → Int32) (many : Nat → Int32) (bits : Nat → Int32) (rows : Nat → Int32) (table : Nat → Int32) (roots : Nat → Int32) (moved : Nat → Int32) (row : Nat → Int64) (N : Nat) {z : (Int32) × (Nat → Int32) × (Nat → Int32) × (Nat → Int32) × (Nat → Int32) × (Nat → Int32) × (Nat → Int32) × (Nat → Int32) × (Nat → Int32) × (Nat → Int32)} (h : f_X7_sweepIfFull N used rooted kind left_ right_ many bits rows table roots moved row = some z) : Mg l yX7_sweepIfFull cX7_sweepIfFull 1 none rm_X7_sweepIfFull D (ty0 cI cJ cB) [.ref a0] sz (ws_X7_sweepIfFull cI cJ cB a0 a_text a_out a_above a_below a_sum a_point a_pointRows a_pointSorts a_kind a_left a_right a_many a_bits a_rows a_table a_roots a_moved a_row thrown used rooted size outSize points takenOut great at_ fault open_ wrong by_ sort variable_ pointCount kind left_ right_ many bits rows table roots moved row) none (ws_X7_sweepIfFull cI cJ cB a0 a_text a_out a_above a_below a_sum a_point a_pointRows a_pointSorts a_kind a_left a_right a_many a_bits a_rows a_table a_roots a_moved a_row thrown z.1 rooted size outSize points takenOut great at_ fault open_ wrong by_ sort variable_ pointCount z.2.1 z.2.2.1 z.2.2.2.1 z.2.2.2.2.1 z.2.2.2.2.2.1 z.2.2.2.2.2.2.1 z.2.2.2.2.2.2.2.1 z.2.2.2.2.2.2.2.2.1 z.2.2.2.2.2.2.2.2.2 row) := by
  refine Mg.of (by decide) (Nat.le_of_ble_eq_true rfl) ?_
  intro p e s m below meth c CX hK hsz hP hD ls hl
  have CX : Cx p m c cX7_sweepIfFull 1 s ([.ref a0] : List Value).toArray (Cond.code yX7_sweepIfFull cX7_sweepIfFull 1 none) RX7 meth none := CX
  obtain ⟨F, hr, hlk, hNw⟩ := id CX
  have hx := F.1
  have hb := F.2.1
  have hown := F.2.2.2.1
  have hl : lv_has ls 1 [(0, .ref a0)] := hl
  have hS : va_S (va_A (ws_X7_sweepIfFull cI cJ cB a0 a_text a_out a_above a_below a_sum a_point a_pointRows a_pointSorts a_kind a_left a_right a_many a_bits a_rows a_table a_roots a_moved a_row thrown used rooted size outSize points takenOut great at_ fault open_ wrong by_ sort variable_ pointCount kind left_ right_ many bits rows table roots moved row) sz) s.heap s.heap [] := va_S.rf
  have hA : ∀ q, s.heap.size ≤ q → va_A (ws_X7_sweepIfFull cI cJ cB a0 a_text a_out a_above a_below a_sum a_point a_pointRows a_pointSorts a_kind a_left a_right a_many a_bits a_rows a_table a_roots a_moved a_row thrown used rooted size outSize points takenOut great at_ fault open_ wrong by_ sort variable_ pointCount kind left_ right_ many bits rows table roots moved row) sz q := fun q hq => Or.inr (hsz ▸ hq)
  unfold f_X7_sweepIfFull at h
  refine lv_aload_n hx hb dX7_sweepIfFull_0 rfl (lv_at hl 0 rfl) ?_
  refine r_get F hK hP 0 8 rfl inW_X7 wm_1100 rfl (by decide) rfl dX7_sweepIfFull_1 ?_
  refine lv_sipush (v := 20000) hx hb dX7_sweepIfFull_4 (by decide) ?_
  refine lv_icmp_le (tgt := 14) hx hb dX7_sweepIfFull_7 (by decide) (fun c7 => ?_) (fun c7 => ?_)
  · have h := o_t c7 h
    exact w_X7_sweepIfFull_14 CX hK hsz used kind left_ right_ many bits rows table roots moved _ _ _ h hP hD hS (lv_sub hl [] rfl)
  · have h := o_f c7 h
    refine lv_aload_n hx hb dX7_sweepIfFull_10 rfl (lv_at hl 0 rfl) ?_
    obtain ⟨z11, hz11, h⟩ := o_b h
    refine k_v (wn := (ws_X7_sweepIfFull cI cJ cB a0 a_text a_out a_above a_below a_sum a_point a_pointRows a_pointSorts a_kind a_left a_right a_many a_bits a_rows a_table a_roots a_moved a_row thrown z11.1 rooted size outSize points takenOut great at_ fault open_ wrong by_ sort variable_ pointCount z11.2.1 z11.2.2.1 z11.2.2.2.1 z11.2.2.2.2.1 z11.2.2.2.2.2.1 z11.2.2.2.2.2.2.1 z11.2.2.2.2.2.2.2.1 z11.2.2.2.2.2.2.2.2.1 z11.2.2.2.2.2.2.2.2.2 row)) (As := []) (rest := []) F hNw hK hP hD hS hA (c_X7_sweep l D cI cJ cB a0 a_text a_out a_above a_below a_sum a_point a_pointRows a_pointSorts a_kind a_left a_right a_many a_bits a_rows a_table a_roots a_moved a_row _ thrown used rooted size outSize points takenOut great at_ fault open_ wrong by_ sort variable_ pointCount kind left_ right_ many bits rows table roots moved row N hz11) wm_1199 cv_X7_sweep [0, 1, 2, 3, 4, 5, 6, 7, 8, 9, 10] [] [0, 1, 2, 3, 4, 5, 6, 7, 8, 9, 10] (⟨rfl, rfl, rfl, by decide, rfl⟩ : Ix [0, 1, 2, 3, 4, 5, 6, 7, 8, 9, 10] [] [0, 1, 2, 3, 4, 5, 6, 7, 8, 9, 10] 11) rfl (hN_of 0 11 (by decide +kernel) rfl (by decide +kernel) rfl) rfl rfl rfl rfl ⟨rfl, rfl, by decide, by decide⟩ hl.1 rfl (Nat.le_of_ble_eq_true rfl) ⟨Nat.zero_le _, Nat.zero_le _⟩ dX7_sweepIfFull_11 (fun H locs hP hD hS => ?_)
    exact w_X7_sweepIfFull_14 CX hK hsz z11.1 z11.2.1 z11.2.2.1 z11.2.2.2.1 z11.2.2.2.2.1 z11.2.2.2.2.2.1 z11.2.2.2.2.2.2.1 z11.2.2.2.2.2.2.2.1 z11.2.2.2.2.2.2.2.2.1 z11.2.2.2.2.2.2.2.2.2 _ _ _ h hP hD hS (lv_sub hl [] rfl)
section G_X7_root
abbrev ws_X7_root (cI cJ cB : ClassId) (a0 a_kind a_left a_right a_many a_bits a_rows a_table a_moved a_text a_out a_above a_below a_row a_sum a_point a_pointRows a_pointSorts a_roots : Nat) (thrown : Int32) (used : Int32) (rooted : Int32) (size : Int32) (outSize : Int32) (points : Int32) (takenOut : Int32) (great : Int32) (at_ : Int32) (fault : Int32) (open_ : Int32) (wrong : Int32) (by_ : Int64) (sort : Int32) (variable_ : Int32) (pointCount : Int32) (roots : Nat → Int32) : va_W := [(a0, .inr (9, [.int thrown, .ref a_kind, .ref a_left, .ref a_right, .ref a_many, .ref a_bits, .ref a_rows, .ref a_table, .int used, .ref a_roots, .int rooted, .ref a_moved, .ref a_text, .int size, .ref a_out, .int outSize, .ref a_above, .ref a_below, .int points, .int takenOut, .int great, .ref a_row, .int at_, .int fault, .int open_, .int wrong, .ref a_sum, .ref a_point, .long by_, .int sort, .int variable_, .ref a_pointRows, .ref a_pointSorts, .int pointCount])), (a_roots, .inl (cI, 2000, .inl roots))]
abbrev rm_X7_root : Room := { frames := 0, cells := 0, slots := 0, locals := 0 }
def f_X7_root (N : Nat) (rooted : Int32) (roots : Nat → Int32) (x1 : Int32) : Option (Int32 × (Int32) × (Nat → Int32)) := ix rooted 2000 (some ((rooted + 1) - 1, rooted + 1, upd roots rooted.toNatClampNeg x1))
variable {p : Program} {l : Launch} {e : Env} {s : State} {m : MethodId} {below : List Frame} {meth : Method} {c : Code} {args : Array Value} {x0 : Cond} {D : va_G} {cI cJ cB : ClassId} {sz N : Nat} {ws0 : va_W} {a0 a_kind a_left a_right a_many a_bits a_rows a_table a_moved a_text a_out a_above a_below a_row a_sum a_point a_pointRows a_pointSorts a_roots : Nat} {thrown : Int32} {used : Int32} {size : Int32} {outSize : Int32} {points : Int32} {takenOut : Int32} {great : Int32} {at_ : Int32} {fault : Int32} {open_ : Int32} {wrong : Int32} {by_ : Int64} {sort : Int32} {variable_ : Int32} {pointCount : Int32} {z : Int32 × (Int32) × (Nat → Int32)}
end G_X7_root
set_option maxHeartbeats 4000000 in
set_option maxRecDepth 100000 in
theorem c_X7_root (l : Launch) (D : va_G) (cI cJ cB : ClassId) (a0 a_kind a_left a_right a_many a_bits a_rows a_table a_moved a_text a_out a_above a_below a_row a_sum a_point a_pointRows a_pointSorts a_roots : Nat) (sz : Nat) (thrown : Int32) (used : Int32) (rooted : Int32) (size : Int32) (outSize : Int32) (points : Int32) (takenOut : Int32) (great : Int32) (at_ : Int32) (fault : Int32) (open_ : Int32) (wrong : Int32) (by_ : Int64) (sort : Int32) (variable_ : Int32) (pointCount : Int32) (roots : Nat → Int32) (x1 : Int32) (N : Nat) {z : Int32 × (Int32) × (Nat → Int32)} (h : f_X7_root N rooted roots x1 = some z) : Mg l yX7_root cX7_root 2 (some .int) rm_X7_root D (ty0 cI cJ cB) [.ref a0, .int x1] sz (ws_X7_root cI cJ cB a0 a_kind a_left a_right a_many a_bits a_rows a_table a_moved a_text a_out a_above a_below a_row a_sum a_point a_pointRows a_pointSorts a_roots thrown used rooted size outSize points takenOut great at_ fault open_ wrong by_ sort variable_ pointCount roots) (some (.int z.1)) (ws_X7_root cI cJ cB a0 a_kind a_left a_right a_many a_bits a_rows a_table a_moved a_text a_out a_above a_below a_row a_sum a_point a_pointRows a_pointSorts a_roots thrown used z.2.1 size outSize points takenOut great at_ fault open_ wrong by_ sort variable_ pointCount z.2.2) := by
  refine Mg.of (by decide) (Nat.le_of_ble_eq_true rfl) ?_
  intro p e s m below meth c CX hK hsz hP hD ls hl
  have CX : Cx p m c cX7_root 2 s ([.ref a0, .int x1] : List Value).toArray (Cond.code yX7_root cX7_root 2 (some .int)) RX7 meth (some .int) := CX
  obtain ⟨F, hr, hlk, hNw⟩ := id CX
  have hx := F.1
  have hb := F.2.1
  have hown := F.2.2.2.1
  have hl : lv_has ls 2 [(0, .ref a0), (1, .int x1)] := hl
  have hS : va_S (va_A (ws_X7_root cI cJ cB a0 a_kind a_left a_right a_many a_bits a_rows a_table a_moved a_text a_out a_above a_below a_row a_sum a_point a_pointRows a_pointSorts a_roots thrown used rooted size outSize points takenOut great at_ fault open_ wrong by_ sort variable_ pointCount roots) sz) s.heap s.heap [] := va_S.rf
  have hA : ∀ q, s.heap.size ≤ q → va_A (ws_X7_root cI cJ cB a0 a_kind a_left a_right a_many a_bits a_rows a_table a_moved a_text a_out a_above a_below a_row a_sum a_point a_pointRows a_pointSorts a_roots thrown used rooted size outSize points takenOut great at_ fault open_ wrong by_ sort variable_ pointCount roots) sz q := fun q hq => Or.inr (hsz ▸ hq)
  unfold f_X7_root at h
  refine lv_aload_n hx hb dX7_root_0 rfl (lv_at hl 0 rfl) ?_
  refine r_get F hK hP 0 9 rfl inW_X7 wm_1101 rfl (by decide) rfl dX7_root_1 ?_
  refine lv_aload_n hx hb dX7_root_4 rfl (lv_at hl 0 rfl) ?_
  refine r_get F hK hP 0 10 rfl inW_X7 wm_1102 rfl (by decide) rfl dX7_root_5 ?_
  refine lv_iload_n hx hb dX7_root_8 rfl (lv_at hl 1 rfl) ?_
  obtain ⟨hi9, h⟩ := o_ix h
  refine r_iast (wn := (ws_X7_root cI cJ cB a0 a_kind a_left a_right a_many a_bits a_rows a_table a_moved a_text a_out a_above a_below a_row a_sum a_point a_pointRows a_pointSorts a_roots thrown used rooted size outSize points takenOut great at_ fault open_ wrong by_ sort variable_ pointCount (upd roots rooted.toNatClampNeg x1))) F hK hP hD hS 1 0 hi9 rfl rfl rfl dX7_root_9 (fun H locs hP hD hS => ?_)
  refine lv_aload_n hx hb dX7_root_10 rfl (lv_at hl 0 rfl) ?_
  refine lv_dup hx hb dX7_root_11 rfl ?_
  refine r_get F hK hP 0 10 rfl inW_X7 wm_1102 rfl (by decide) rfl dX7_root_12 ?_
  refine lv_iconst (v := 1) hx hb dX7_root_15 (by decide) ?_
  refine lv_iadd hx hb dX7_root_16 ?_
  refine r_put (wn := (ws_X7_root cI cJ cB a0 a_kind a_left a_right a_many a_bits a_rows a_table a_moved a_text a_out a_above a_below a_row a_sum a_point a_pointRows a_pointSorts a_roots thrown used (rooted + 1) size outSize points takenOut great at_ fault open_ wrong by_ sort variable_ pointCount (upd roots rooted.toNatClampNeg x1))) F hK hP hD hS 0 10 rfl inW_X7 wm_1102 tyX7_ok nmX7 rfl rfl (by decide) rfl rfl (Nat.le_of_ble_eq_true rfl) rfl dX7_root_17 (fun H locs hP hD hS => ?_)
  refine lv_aload_n hx hb dX7_root_20 rfl (lv_at hl 0 rfl) ?_
  refine r_get F hK hP 0 10 rfl inW_X7 wm_1102 rfl (by decide) rfl dX7_root_21 ?_
  refine lv_iconst (v := 1) hx hb dX7_root_24 (by decide) ?_
  refine lv_isub hx hb dX7_root_25 ?_
  obtain rfl := Option.some.inj h
  exact r_ret (v := (rooted + 1) - 1) F hr hlk rfl dX7_root_26 hsz hP hD hS
section G_X7_truth
abbrev ws_X7_truth (cI cJ cB : ClassId) (a0 a_kind a_left a_right a_many a_bits a_rows a_table a_roots a_moved a_text a_out a_above a_below a_row a_sum a_point a_pointRows a_pointSorts : Nat) (thrown : Int32) (used : Int32) (rooted : Int32) (size : Int32) (outSize : Int32) (points : Int32) (takenOut : Int32) (great : Int32) (at_ : Int32) (fault : Int32) (open_ : Int32) (wrong : Int32) (by_ : Int64) (sort : Int32) (variable_ : Int32) (pointCount : Int32) : va_W := [(a0, .inr (9, [.int thrown, .ref a_kind, .ref a_left, .ref a_right, .ref a_many, .ref a_bits, .ref a_rows, .ref a_table, .int used, .ref a_roots, .int rooted, .ref a_moved, .ref a_text, .int size, .ref a_out, .int outSize, .ref a_above, .ref a_below, .int points, .int takenOut, .int great, .ref a_row, .int at_, .int fault, .int open_, .int wrong, .ref a_sum, .ref a_point, .long by_, .int sort, .int variable_, .ref a_pointRows, .ref a_pointSorts, .int pointCount]))]
abbrev rm_X7_truth : Room := { frames := 0, cells := 0, slots := 0, locals := 0 }
def f_X7_truth_9 (N : Nat) (s0 : Int32) : Option (Int32) := some s0
def f_X7_truth (N : Nat) (x1 : Int32) : Option (Int32) := ifb (x1 = 0) (f_X7_truth_9 N 1) (f_X7_truth_9 N 0)
variable {p : Program} {l : Launch} {e : Env} {s : State} {m : MethodId} {below : List Frame} {meth : Method} {c : Code} {args : Array Value} {x0 : Cond} {D : va_G} {cI cJ cB : ClassId} {sz N : Nat} {ws0 : va_W} {a0 a_kind a_left a_right a_many a_bits a_rows a_table a_roots a_moved a_text a_out a_above a_below a_row a_sum a_point a_pointRows a_pointSorts : Nat} {thrown : Int32} {used : Int32} {rooted : Int32} {size : Int32} {outSize : Int32} {points : Int32} {takenOut : Int32} {great : Int32} {at_ : Int32} {fault : Int32} {open_ : Int32} {wrong : Int32} {by_ : Int64} {sort : Int32} {variable_ : Int32} {pointCount : Int32} {z : Int32}
set_option maxHeartbeats 4000000 in
set_option maxRecDepth 100000 in
theorem w_X7_truth_9 (CX : Cx p m c cX7_truth 2 s args x0 RX7 meth (some .int)) (hK : va_K D vwCl (ty0 cI cJ cB) s) (hsz : s.heap.size = sz) : ∀ (s0 : Int32) (H : Heap) (locs : List Loc) (ls : Array Slot), f_X7_truth_9 N s0 = some z → va_P D vwCl (ws_X7_truth cI cJ cB a0 a_kind a_left a_right a_many a_bits a_rows a_table a_roots a_moved a_text a_out a_above a_below a_row a_sum a_point a_pointRows a_pointSorts thrown used rooted size outSize points takenOut great at_ fault open_ wrong by_ sort variable_ pointCount) H → va_D (va_A ws0 sz) (ws_X7_truth cI cJ cB a0 a_kind a_left a_right a_many a_bits a_rows a_table a_roots a_moved a_text a_out a_above a_below a_row a_sum a_point a_pointRows a_pointSorts thrown used rooted size outSize points takenOut great at_ fault open_ wrong by_ sort variable_ pointCount) → va_S (va_A ws0 sz) s.heap H locs → lv_has ls 2 [] → W p l e rm_X7_truth s m args below meth c H locs 0 0 (MQ below (gQ D sz ws0 (ws_X7_truth cI cJ cB a0 a_kind a_left a_right a_many a_bits a_rows a_table a_roots a_moved a_text a_out a_above a_below a_row a_sum a_point a_pointRows a_pointSorts thrown used rooted size outSize points takenOut great at_ fault open_ wrong by_ sort variable_ pointCount) (some (.int z))) args s 0 0 (va_A ws0 sz)) (F0 m 9 ls [.int s0]) := by
  obtain ⟨F, hr, hlk, hNw⟩ := id CX
  have hx := F.1
  have hb := F.2.1
  have hown := F.2.2.2.1
  have hA : ∀ q, s.heap.size ≤ q → va_A ws0 sz q := fun q hq => Or.inr (hsz ▸ hq)
  intro s0 H locs ls h hP hD hS hl
  unfold f_X7_truth_9 at h
  obtain rfl := Option.some.inj h
  exact r_ret (v := s0) F hr hlk rfl dX7_truth_9 hsz hP hD hS
end G_X7_truth
set_option maxHeartbeats 4000000 in
set_option maxRecDepth 100000 in
theorem c_X7_truth (l : Launch) (D : va_G) (cI cJ cB : ClassId) (a0 a_kind a_left a_right a_many a_bits a_rows a_table a_roots a_moved a_text a_out a_above a_below a_row a_sum a_point a_pointRows a_pointSorts : Nat) (sz : Nat) (thrown : Int32) (used : Int32) (rooted : Int32) (size : Int32) (outSize : Int32) (points : Int32) (takenOut : Int32) (great : Int32) (at_ : Int32) (fault : Int32) (open_ : Int32) (wrong : Int32) (by_ : Int64) (sort : Int32) (variable_ : Int32) (pointCount : Int32) (x1 : Int32) (N : Nat) {z : Int32} (h : f_X7_truth N x1 = some z) : Mg l yX7_truth cX7_truth 2 (some .int) rm_X7_truth D (ty0 cI cJ cB) [.ref a0, .int x1] sz (ws_X7_truth cI cJ cB a0 a_kind a_left a_right a_many a_bits a_rows a_table a_roots a_moved a_text a_out a_above a_below a_row a_sum a_point a_pointRows a_pointSorts thrown used rooted size outSize points takenOut great at_ fault open_ wrong by_ sort variable_ pointCount) (some (.int z)) (ws_X7_truth cI cJ cB a0 a_kind a_left a_right a_many a_bits a_rows a_table a_roots a_moved a_text a_out a_above a_below a_row a_sum a_point a_pointRows a_pointSorts thrown used rooted size outSize points takenOut great at_ fault open_ wrong by_ sort variable_ pointCount) := by
  refine Mg.of (by decide) (Nat.le_of_ble_eq_true rfl) ?_
  intro p e s m below meth c CX hK hsz hP hD ls hl
  have CX : Cx p m c cX7_truth 2 s ([.ref a0, .int x1] : List Value).toArray (Cond.code yX7_truth cX7_truth 2 (some .int)) RX7 meth (some .int) := CX
  obtain ⟨F, hr, hlk, hNw⟩ := id CX
  have hx := F.1
  have hb := F.2.1
  have hown := F.2.2.2.1
  have hl : lv_has ls 2 [(0, .ref a0), (1, .int x1)] := hl
  have hS : va_S (va_A (ws_X7_truth cI cJ cB a0 a_kind a_left a_right a_many a_bits a_rows a_table a_roots a_moved a_text a_out a_above a_below a_row a_sum a_point a_pointRows a_pointSorts thrown used rooted size outSize points takenOut great at_ fault open_ wrong by_ sort variable_ pointCount) sz) s.heap s.heap [] := va_S.rf
  have hA : ∀ q, s.heap.size ≤ q → va_A (ws_X7_truth cI cJ cB a0 a_kind a_left a_right a_many a_bits a_rows a_table a_roots a_moved a_text a_out a_above a_below a_row a_sum a_point a_pointRows a_pointSorts thrown used rooted size outSize points takenOut great at_ fault open_ wrong by_ sort variable_ pointCount) sz q := fun q hq => Or.inr (hsz ▸ hq)
  unfold f_X7_truth at h
  refine lv_iload_n hx hb dX7_truth_0 rfl (lv_at hl 1 rfl) ?_
  refine lv_if_eq (tgt := 8) hx hb dX7_truth_1 (by decide) (fun c1 => ?_) (fun c1 => ?_)
  · have h := o_t c1 h
    refine lv_iconst (v := 1) hx hb dX7_truth_8 (by decide) ?_
    exact w_X7_truth_9 CX hK hsz 1 _ _ _ h hP hD hS (lv_sub hl [] rfl)
  · have h := o_f c1 h
    refine lv_iconst (v := 0) hx hb dX7_truth_4 (by decide) ?_
    refine lv_goto (tgt := 9) hx hb dX7_truth_5 (by decide) ?_
    exact w_X7_truth_9 CX hK hsz 0 _ _ _ h hP hD hS (lv_sub hl [] rfl)
section G_X7_both
abbrev ws_X7_both (cI cJ cB : ClassId) (a0 a_roots a_moved a_text a_out a_above a_below a_sum a_point a_pointRows a_pointSorts a_kind a_left a_right a_many a_bits a_rows a_table a_row : Nat) (thrown : Int32) (used : Int32) (rooted : Int32) (size : Int32) (outSize : Int32) (points : Int32) (takenOut : Int32) (great : Int32) (at_ : Int32) (fault : Int32) (open_ : Int32) (wrong : Int32) (by_ : Int64) (sort : Int32) (variable_ : Int32) (pointCount : Int32) (kind : Nat → Int32) (left_ : Nat → Int32) (right_ : Nat → Int32) (many : Nat → Int32) (bits : Nat → Int32) (rows : Nat → Int32) (table : Nat → Int32) (row : Nat → Int64) : va_W := [(a0, .inr (9, [.int thrown, .ref a_kind, .ref a_left, .ref a_right, .ref a_many, .ref a_bits, .ref a_rows, .ref a_table, .int used, .ref a_roots, .int rooted, .ref a_moved, .ref a_text, .int size, .ref a_out, .int outSize, .ref a_above, .ref a_below, .int points, .int takenOut, .int great, .ref a_row, .int at_, .int fault, .int open_, .int wrong, .ref a_sum, .ref a_point, .long by_, .int sort, .int variable_, .ref a_pointRows, .ref a_pointSorts, .int pointCount])), (a_kind, .inl (cI, 24000, .inl kind)), (a_left, .inl (cI, 24000, .inl left_)), (a_right, .inl (cI, 24000, .inl right_)), (a_many, .inl (cI, 24000, .inl many)), (a_bits, .inl (cI, 24000, .inl bits)), (a_rows, .inl (cI, 216000, .inl rows)), (a_table, .inl (cI, 65536, .inl table)), (a_row, .inl (cJ, 9, .inr (.inl row)))]
abbrev rm_X7_both : Room := { frames := 2, cells := 0, slots := 0, locals := 55 }
def f_X7_both_23 (N : Nat) (used : Int32) (kind : Nat → Int32) (left_ : Nat → Int32) (right_ : Nat → Int32) (many : Nat → Int32) (bits : Nat → Int32) (rows : Nat → Int32) (table : Nat → Int32) (row : Nat → Int64) (y4 : Int32) : Option (Int32 × (Int32) × (Nat → Int32) × (Nat → Int32) × (Nat → Int32) × (Nat → Int32) × (Nat → Int32) × (Nat → Int32) × (Nat → Int32)) := some (y4, used, kind, left_, right_, many, bits, rows, table)
def f_X7_both_39 (N : Nat) (used : Int32) (kind : Nat → Int32) (left_ : Nat → Int32) (right_ : Nat → Int32) (many : Nat → Int32) (bits : Nat → Int32) (rows : Nat → Int32) (table : Nat → Int32) (row : Nat → Int64) (y3 : Int32) : Option (Int32 × (Int32) × (Nat → Int32) × (Nat → Int32) × (Nat → Int32) × (Nat → Int32) × (Nat → Int32) × (Nat → Int32) × (Nat → Int32)) := some (y3, used, kind, left_, right_, many, bits, rows, table)
def f_X7_both_68 (N : Nat) (used : Int32) (kind : Nat → Int32) (left_ : Nat → Int32) (right_ : Nat → Int32) (many : Nat → Int32) (bits : Nat → Int32) (rows : Nat → Int32) (table : Nat → Int32) (row : Nat → Int64) (s0 : Int32) : Option (Int32 × (Int32) × (Nat → Int32) × (Nat → Int32) × (Nat → Int32) × (Nat → Int32) × (Nat → Int32) × (Nat → Int32) × (Nat → Int32)) := some (s0, used, kind, left_, right_, many, bits, rows, table)
def f_X7_both_63 (N : Nat) (used : Int32) (kind : Nat → Int32) (left_ : Nat → Int32) (right_ : Nat → Int32) (many : Nat → Int32) (bits : Nat → Int32) (rows : Nat → Int32) (table : Nat → Int32) (row : Nat → Int64) (y2 : Int32) (y3 : Int32) (s1 : Int32) : Option (Int32 × (Int32) × (Nat → Int32) × (Nat → Int32) × (Nat → Int32) × (Nat → Int32) × (Nat → Int32) × (Nat → Int32) × (Nat → Int32)) := (f_X7_place N used kind left_ right_ many bits rows table row s1 y2 y3).bind (fun z65 => f_X7_both_68 N z65.2.1 z65.2.2.1 z65.2.2.2.1 z65.2.2.2.2.1 z65.2.2.2.2.2.1 z65.2.2.2.2.2.2.1 z65.2.2.2.2.2.2.2.1 z65.2.2.2.2.2.2.2.2 row z65.1)
def f_X7_both_9 (N : Nat) (used : Int32) (kind : Nat → Int32) (left_ : Nat → Int32) (right_ : Nat → Int32) (many : Nat → Int32) (bits : Nat → Int32) (rows : Nat → Int32) (table : Nat → Int32) (row : Nat → Int64) (y1 : Int32) (y2 : Int32) (y3 : Int32) (s0 : Int32) : Option (Int32 × (Int32) × (Nat → Int32) × (Nat → Int32) × (Nat → Int32) × (Nat → Int32) × (Nat → Int32) × (Nat → Int32) × (Nat → Int32)) := ifb (y2 = s0) (f_X7_both_23 N used kind left_ right_ many bits rows table row s0) (ifb (y3 = s0) (f_X7_both_23 N used kind left_ right_ many bits rows table row s0) (ifb (y2 = (1 - s0)) (f_X7_both_39 N used kind left_ right_ many bits rows table row y3) (ifb (y2 = y3) (f_X7_both_39 N used kind left_ right_ many bits rows table row y3) (ifb (y3 = (1 - s0)) (f_X7_both_68 N used kind left_ right_ many bits rows table row y2) (ifb (y1 = 0) (f_X7_both_63 N used kind left_ right_ many bits rows table row y2 y3 4) (f_X7_both_63 N used kind left_ right_ many bits rows table row y2 y3 3))))))
def f_X7_both (N : Nat) (used : Int32) (kind : Nat → Int32) (left_ : Nat → Int32) (right_ : Nat → Int32) (many : Nat → Int32) (bits : Nat → Int32) (rows : Nat → Int32) (table : Nat → Int32) (row : Nat → Int64) (x1 : Int32) (x2 : Int32) (x3 : Int32) : Option (Int32 × (Int32) × (Nat → Int32) × (Nat → Int32) × (Nat → Int32) × (Nat → Int32) × (Nat → Int32) × (Nat → Int32) × (Nat → Int32)) := ifb (x1 = 0) (f_X7_both_9 N used kind left_ right_ many bits rows table row x1 x2 x3 0) (f_X7_both_9 N used kind left_ right_ many bits rows table row x1 x2 x3 1)
variable {p : Program} {l : Launch} {e : Env} {s : State} {m : MethodId} {below : List Frame} {meth : Method} {c : Code} {args : Array Value} {x0 : Cond} {D : va_G} {cI cJ cB : ClassId} {sz N : Nat} {ws0 : va_W} {a0 a_roots a_moved a_text a_out a_above a_below a_sum a_point a_pointRows a_pointSorts a_kind a_left a_right a_many a_bits a_rows a_table a_row : Nat} {thrown : Int32} {rooted : Int32} {size : Int32} {outSize : Int32} {points : Int32} {takenOut : Int32} {great : Int32} {at_ : Int32} {fault : Int32} {open_ : Int32} {wrong : Int32} {by_ : Int64} {sort : Int32} {variable_ : Int32} {pointCount : Int32} {row : Nat → Int64} {z : Int32 × (Int32) × (Nat → Int32) × (Nat → Int32) × (Nat → Int32) × (Nat → Int32) × (Nat → Int32) × (Nat → Int32) × (Nat → Int32)}
set_option maxHeartbeats 4000000 in
set_option maxRecDepth 100000 in
theorem w_X7_both_23 (CX : Cx p m c cX7_both 5 s args x0 RX7 meth (some .int)) (hK : va_K D vwCl (ty0 cI cJ cB) s) (hsz : s.heap.size = sz) : ∀ (used : Int32) (kind : Nat → Int32) (left_ : Nat → Int32) (right_ : Nat → Int32) (many : Nat → Int32) (bits : Nat → Int32) (rows : Nat → Int32) (table : Nat → Int32) (y4 : Int32) (H : Heap) (locs : List Loc) (ls : Array Slot), f_X7_both_23 N used kind left_ right_ many bits rows table row y4 = some z → va_P D vwCl (ws_X7_both cI cJ cB a0 a_roots a_moved a_text a_out a_above a_below a_sum a_point a_pointRows a_pointSorts a_kind a_left a_right a_many a_bits a_rows a_table a_row thrown used rooted size outSize points takenOut great at_ fault open_ wrong by_ sort variable_ pointCount kind left_ right_ many bits rows table row) H → va_D (va_A ws0 sz) (ws_X7_both cI cJ cB a0 a_roots a_moved a_text a_out a_above a_below a_sum a_point a_pointRows a_pointSorts a_kind a_left a_right a_many a_bits a_rows a_table a_row thrown used rooted size outSize points takenOut great at_ fault open_ wrong by_ sort variable_ pointCount kind left_ right_ many bits rows table row) → va_S (va_A ws0 sz) s.heap H locs → lv_has ls 5 [(4, .int y4)] → W p l e rm_X7_both s m args below meth c H locs 0 0 (MQ below (gQ D sz ws0 (ws_X7_both cI cJ cB a0 a_roots a_moved a_text a_out a_above a_below a_sum a_point a_pointRows a_pointSorts a_kind a_left a_right a_many a_bits a_rows a_table a_row thrown z.2.1 rooted size outSize points takenOut great at_ fault open_ wrong by_ sort variable_ pointCount z.2.2.1 z.2.2.2.1 z.2.2.2.2.1 z.2.2.2.2.2.1 z.2.2.2.2.2.2.1 z.2.2.2.2.2.2.2.1 z.2.2.2.2.2.2.2.2 row) (some (.int z.1))) args s 0 0 (va_A ws0 sz)) (F0 m 23 ls []) := by
  obtain ⟨F, hr, hlk, hNw⟩ := id CX
  have hx := F.1
  have hb := F.2.1
  have hown := F.2.2.2.1
  have hA : ∀ q, s.heap.size ≤ q → va_A ws0 sz q := fun q hq => Or.inr (hsz ▸ hq)
  intro used kind left_ right_ many bits rows table y4 H locs ls h hP hD hS hl
  unfold f_X7_both_23 at h
  refine lv_iload hx hb dX7_both_23 (lv_at hl 0 rfl) ?_
  obtain rfl := Option.some.inj h
  exact r_ret (v := y4) F hr hlk rfl dX7_both_25 hsz hP hD hS
set_option maxHeartbeats 4000000 in
set_option maxRecDepth 100000 in
theorem w_X7_both_39 (CX : Cx p m c cX7_both 5 s args x0 RX7 meth (some .int)) (hK : va_K D vwCl (ty0 cI cJ cB) s) (hsz : s.heap.size = sz) : ∀ (used : Int32) (kind : Nat → Int32) (left_ : Nat → Int32) (right_ : Nat → Int32) (many : Nat → Int32) (bits : Nat → Int32) (rows : Nat → Int32) (table : Nat → Int32) (y3 : Int32) (H : Heap) (locs : List Loc) (ls : Array Slot), f_X7_both_39 N used kind left_ right_ many bits rows table row y3 = some z → va_P D vwCl (ws_X7_both cI cJ cB a0 a_roots a_moved a_text a_out a_above a_below a_sum a_point a_pointRows a_pointSorts a_kind a_left a_right a_many a_bits a_rows a_table a_row thrown used rooted size outSize points takenOut great at_ fault open_ wrong by_ sort variable_ pointCount kind left_ right_ many bits rows table row) H → va_D (va_A ws0 sz) (ws_X7_both cI cJ cB a0 a_roots a_moved a_text a_out a_above a_below a_sum a_point a_pointRows a_pointSorts a_kind a_left a_right a_many a_bits a_rows a_table a_row thrown used rooted size outSize points takenOut great at_ fault open_ wrong by_ sort variable_ pointCount kind left_ right_ many bits rows table row) → va_S (va_A ws0 sz) s.heap H locs → lv_has ls 5 [(3, .int y3)] → W p l e rm_X7_both s m args below meth c H locs 0 0 (MQ below (gQ D sz ws0 (ws_X7_both cI cJ cB a0 a_roots a_moved a_text a_out a_above a_below a_sum a_point a_pointRows a_pointSorts a_kind a_left a_right a_many a_bits a_rows a_table a_row thrown z.2.1 rooted size outSize points takenOut great at_ fault open_ wrong by_ sort variable_ pointCount z.2.2.1 z.2.2.2.1 z.2.2.2.2.1 z.2.2.2.2.2.1 z.2.2.2.2.2.2.1 z.2.2.2.2.2.2.2.1 z.2.2.2.2.2.2.2.2 row) (some (.int z.1))) args s 0 0 (va_A ws0 sz)) (F0 m 39 ls []) := by
  obtain ⟨F, hr, hlk, hNw⟩ := id CX
  have hx := F.1
  have hb := F.2.1
  have hown := F.2.2.2.1
  have hA : ∀ q, s.heap.size ≤ q → va_A ws0 sz q := fun q hq => Or.inr (hsz ▸ hq)
  intro used kind left_ right_ many bits rows table y3 H locs ls h hP hD hS hl
  unfold f_X7_both_39 at h
  refine lv_iload_n hx hb dX7_both_39 rfl (lv_at hl 0 rfl) ?_
  obtain rfl := Option.some.inj h
  exact r_ret (v := y3) F hr hlk rfl dX7_both_40 hsz hP hD hS
set_option maxHeartbeats 4000000 in
set_option maxRecDepth 100000 in
theorem w_X7_both_68 (CX : Cx p m c cX7_both 5 s args x0 RX7 meth (some .int)) (hK : va_K D vwCl (ty0 cI cJ cB) s) (hsz : s.heap.size = sz) : ∀ (used : Int32) (kind : Nat → Int32) (left_ : Nat → Int32) (right_ : Nat → Int32) (many : Nat → Int32) (bits : Nat → Int32) (rows : Nat → Int32) (table : Nat → Int32) (s0 : Int32) (H : Heap) (locs : List Loc) (ls : Array Slot), f_X7_both_68 N used kind left_ right_ many bits rows table row s0 = some z → va_P D vwCl (ws_X7_both cI cJ cB a0 a_roots a_moved a_text a_out a_above a_below a_sum a_point a_pointRows a_pointSorts a_kind a_left a_right a_many a_bits a_rows a_table a_row thrown used rooted size outSize points takenOut great at_ fault open_ wrong by_ sort variable_ pointCount kind left_ right_ many bits rows table row) H → va_D (va_A ws0 sz) (ws_X7_both cI cJ cB a0 a_roots a_moved a_text a_out a_above a_below a_sum a_point a_pointRows a_pointSorts a_kind a_left a_right a_many a_bits a_rows a_table a_row thrown used rooted size outSize points takenOut great at_ fault open_ wrong by_ sort variable_ pointCount kind left_ right_ many bits rows table row) → va_S (va_A ws0 sz) s.heap H locs → lv_has ls 5 [] → W p l e rm_X7_both s m args below meth c H locs 0 0 (MQ below (gQ D sz ws0 (ws_X7_both cI cJ cB a0 a_roots a_moved a_text a_out a_above a_below a_sum a_point a_pointRows a_pointSorts a_kind a_left a_right a_many a_bits a_rows a_table a_row thrown z.2.1 rooted size outSize points takenOut great at_ fault open_ wrong by_ sort variable_ pointCount z.2.2.1 z.2.2.2.1 z.2.2.2.2.1 z.2.2.2.2.2.1 z.2.2.2.2.2.2.1 z.2.2.2.2.2.2.2.1 z.2.2.2.2.2.2.2.2 row) (some (.int z.1))) args s 0 0 (va_A ws0 sz)) (F0 m 68 ls [.int s0]) := by
  obtain ⟨F, hr, hlk, hNw⟩ := id CX
  have hx := F.1
  have hb := F.2.1
  have hown := F.2.2.2.1
  have hA : ∀ q, s.heap.size ≤ q → va_A ws0 sz q := fun q hq => Or.inr (hsz ▸ hq)
  intro used kind left_ right_ many bits rows table s0 H locs ls h hP hD hS hl
  unfold f_X7_both_68 at h
  obtain rfl := Option.some.inj h
  exact r_ret (v := s0) F hr hlk rfl dX7_both_68 hsz hP hD hS
set_option maxHeartbeats 4000000 in
set_option maxRecDepth 100000 in
theorem w_X7_both_63 (CX : Cx p m c cX7_both 5 s args x0 RX7 meth (some .int)) (hK : va_K D vwCl (ty0 cI cJ cB) s) (hsz : s.heap.size = sz) : ∀ (used : Int32) (kind : Nat → Int32) (left_ : Nat → Int32) (right_ : Nat → Int32) (many : Nat → Int32) (bits : Nat → Int32) (rows : Nat → Int32) (table : Nat → Int32) (y2 : Int32) (y3 : Int32) (s1 : Int32) (H : Heap) (locs : List Loc) (ls : Array Slot), f_X7_both_63 N used kind left_ right_ many bits rows table row y2 y3 s1 = some z → va_P D vwCl (ws_X7_both cI cJ cB a0 a_roots a_moved a_text a_out a_above a_below a_sum a_point a_pointRows a_pointSorts a_kind a_left a_right a_many a_bits a_rows a_table a_row thrown used rooted size outSize points takenOut great at_ fault open_ wrong by_ sort variable_ pointCount kind left_ right_ many bits rows table row) H → va_D (va_A ws0 sz) (ws_X7_both cI cJ cB a0 a_roots a_moved a_text a_out a_above a_below a_sum a_point a_pointRows a_pointSorts a_kind a_left a_right a_many a_bits a_rows a_table a_row thrown used rooted size outSize points takenOut great at_ fault open_ wrong by_ sort variable_ pointCount kind left_ right_ many bits rows table row) → va_S (va_A ws0 sz) s.heap H locs → lv_has ls 5 [(2, .int y2), (3, .int y3)] → W p l e rm_X7_both s m args below meth c H locs 0 0 (MQ below (gQ D sz ws0 (ws_X7_both cI cJ cB a0 a_roots a_moved a_text a_out a_above a_below a_sum a_point a_pointRows a_pointSorts a_kind a_left a_right a_many a_bits a_rows a_table a_row thrown z.2.1 rooted size outSize points takenOut great at_ fault open_ wrong by_ sort variable_ pointCount z.2.2.1 z.2.2.2.1 z.2.2.2.2.1 z.2.2.2.2.2.1 z.2.2.2.2.2.2.1 z.2.2.2.2.2.2.2.1 z.2.2.2.2.2.2.2.2 row) (some (.int z.1))) args s 0 0 (va_A ws0 sz)) (F0 m 63 ls [.int s1, .ref a0]) := by
  obtain ⟨F, hr, hlk, hNw⟩ := id CX
  have hx := F.1
  have hb := F.2.1
  have hown := F.2.2.2.1
  have hA : ∀ q, s.heap.size ≤ q → va_A ws0 sz q := fun q hq => Or.inr (hsz ▸ hq)
  intro used kind left_ right_ many bits rows table y2 y3 s1 H locs ls h hP hD hS hl
  unfold f_X7_both_63 at h
  refine lv_iload_n hx hb dX7_both_63 rfl (lv_at hl 0 rfl) ?_
  refine lv_iload_n hx hb dX7_both_64 rfl (lv_at hl 1 rfl) ?_
  obtain ⟨z65, hz65, h⟩ := o_b h
  refine k_v (wn := (ws_X7_both cI cJ cB a0 a_roots a_moved a_text a_out a_above a_below a_sum a_point a_pointRows a_pointSorts a_kind a_left a_right a_many a_bits a_rows a_table a_row thrown z65.2.1 rooted size outSize points takenOut great at_ fault open_ wrong by_ sort variable_ pointCount z65.2.2.1 z65.2.2.2.1 z65.2.2.2.2.1 z65.2.2.2.2.2.1 z65.2.2.2.2.2.2.1 z65.2.2.2.2.2.2.2.1 z65.2.2.2.2.2.2.2.2 row)) (As := [.int s1, .int y2, .int y3]) (rest := []) F hNw hK hP hD hS hA (c_X7_place l D cI cJ cB a0 a_roots a_moved a_text a_out a_above a_below a_sum a_point a_pointRows a_pointSorts a_kind a_left a_right a_many a_bits a_rows a_table a_row _ thrown used rooted size outSize points takenOut great at_ fault open_ wrong by_ sort variable_ pointCount kind left_ right_ many bits rows table row s1 y2 y3 N hz65) wm_1082 cv_X7_place [0, 1, 2, 3, 4, 5, 6, 7, 8] [] [0, 1, 2, 3, 4, 5, 6, 7, 8] (⟨rfl, rfl, rfl, by decide, rfl⟩ : Ix [0, 1, 2, 3, 4, 5, 6, 7, 8] [] [0, 1, 2, 3, 4, 5, 6, 7, 8] 9) rfl (hN_of 0 9 (by decide +kernel) rfl (by decide +kernel) rfl) rfl rfl rfl rfl ⟨rfl, rfl, by decide, by decide⟩ hl.1 rfl (Nat.le_of_ble_eq_true rfl) ⟨Nat.zero_le _, Nat.zero_le _⟩ dX7_both_65 (fun H locs hP hD hS => ?_)
  exact w_X7_both_68 CX hK hsz z65.2.1 z65.2.2.1 z65.2.2.2.1 z65.2.2.2.2.1 z65.2.2.2.2.2.1 z65.2.2.2.2.2.2.1 z65.2.2.2.2.2.2.2.1 z65.2.2.2.2.2.2.2.2 z65.1 _ _ _ h hP hD hS (lv_sub hl [] rfl)
set_option maxHeartbeats 4000000 in
set_option maxRecDepth 100000 in
theorem w_X7_both_9 (CX : Cx p m c cX7_both 5 s args x0 RX7 meth (some .int)) (hK : va_K D vwCl (ty0 cI cJ cB) s) (hsz : s.heap.size = sz) : ∀ (used : Int32) (kind : Nat → Int32) (left_ : Nat → Int32) (right_ : Nat → Int32) (many : Nat → Int32) (bits : Nat → Int32) (rows : Nat → Int32) (table : Nat → Int32) (y1 : Int32) (y2 : Int32) (y3 : Int32) (s0 : Int32) (H : Heap) (locs : List Loc) (ls : Array Slot), f_X7_both_9 N used kind left_ right_ many bits rows table row y1 y2 y3 s0 = some z → va_P D vwCl (ws_X7_both cI cJ cB a0 a_roots a_moved a_text a_out a_above a_below a_sum a_point a_pointRows a_pointSorts a_kind a_left a_right a_many a_bits a_rows a_table a_row thrown used rooted size outSize points takenOut great at_ fault open_ wrong by_ sort variable_ pointCount kind left_ right_ many bits rows table row) H → va_D (va_A ws0 sz) (ws_X7_both cI cJ cB a0 a_roots a_moved a_text a_out a_above a_below a_sum a_point a_pointRows a_pointSorts a_kind a_left a_right a_many a_bits a_rows a_table a_row thrown used rooted size outSize points takenOut great at_ fault open_ wrong by_ sort variable_ pointCount kind left_ right_ many bits rows table row) → va_S (va_A ws0 sz) s.heap H locs → lv_has ls 5 [(0, .ref a0), (1, .int y1), (2, .int y2), (3, .int y3)] → W p l e rm_X7_both s m args below meth c H locs 0 0 (MQ below (gQ D sz ws0 (ws_X7_both cI cJ cB a0 a_roots a_moved a_text a_out a_above a_below a_sum a_point a_pointRows a_pointSorts a_kind a_left a_right a_many a_bits a_rows a_table a_row thrown z.2.1 rooted size outSize points takenOut great at_ fault open_ wrong by_ sort variable_ pointCount z.2.2.1 z.2.2.2.1 z.2.2.2.2.1 z.2.2.2.2.2.1 z.2.2.2.2.2.2.1 z.2.2.2.2.2.2.2.1 z.2.2.2.2.2.2.2.2 row) (some (.int z.1))) args s 0 0 (va_A ws0 sz)) (F0 m 9 ls [.int s0]) := by
  obtain ⟨F, hr, hlk, hNw⟩ := id CX
  have hx := F.1
  have hb := F.2.1
  have hown := F.2.2.2.1
  have hA : ∀ q, s.heap.size ≤ q → va_A ws0 sz q := fun q hq => Or.inr (hsz ▸ hq)
  intro used kind left_ right_ many bits rows table y1 y2 y3 s0 H locs ls h hP hD hS hl
  unfold f_X7_both_9 at h
  refine lv_istore (lv' := [(4, .int s0), (0, .ref a0), (1, .int y1), (2, .int y2), (3, .int y3)]) hx hb dX7_both_9 hl (by decide) rfl (fun ls hl => ?_)
  refine lv_iload_n hx hb dX7_both_11 rfl (lv_at hl 3 rfl) ?_
  refine lv_iload hx hb dX7_both_12 (lv_at hl 0 rfl) ?_
  refine lv_icmp_eq (tgt := 23) hx hb dX7_both_14 (by decide) (fun c14 => ?_) (fun c14 => ?_)
  · have h := o_t c14 h
    exact w_X7_both_23 CX hK hsz used kind left_ right_ many bits rows table s0 _ _ _ h hP hD hS (lv_sub hl [0] rfl)
  · have h := o_f c14 h
    refine lv_iload_n hx hb dX7_both_17 rfl (lv_at hl 4 rfl) ?_
    refine lv_iload hx hb dX7_both_18 (lv_at hl 0 rfl) ?_
    refine lv_icmp_ne (tgt := 26) hx hb dX7_both_20 (by decide) (fun c20 => ?_) (fun c20 => ?_)
    · have h := o_f c20 h
      refine lv_iload_n hx hb dX7_both_26 rfl (lv_at hl 3 rfl) ?_
      refine lv_iconst (v := 1) hx hb dX7_both_27 (by decide) ?_
      refine lv_iload hx hb dX7_both_28 (lv_at hl 0 rfl) ?_
      refine lv_isub hx hb dX7_both_30 ?_
      refine lv_icmp_eq (tgt := 39) hx hb dX7_both_31 (by decide) (fun c31 => ?_) (fun c31 => ?_)
      · have h := o_t c31 h
        exact w_X7_both_39 CX hK hsz used kind left_ right_ many bits rows table y3 _ _ _ h hP hD hS (lv_sub hl [4] rfl)
      · have h := o_f c31 h
        refine lv_iload_n hx hb dX7_both_34 rfl (lv_at hl 3 rfl) ?_
        refine lv_iload_n hx hb dX7_both_35 rfl (lv_at hl 4 rfl) ?_
        refine lv_icmp_ne (tgt := 41) hx hb dX7_both_36 (by decide) (fun c36 => ?_) (fun c36 => ?_)
        · have h := o_f c36 h
          refine lv_iload_n hx hb dX7_both_41 rfl (lv_at hl 4 rfl) ?_
          refine lv_iconst (v := 1) hx hb dX7_both_42 (by decide) ?_
          refine lv_iload hx hb dX7_both_43 (lv_at hl 0 rfl) ?_
          refine lv_isub hx hb dX7_both_45 ?_
          refine lv_icmp_ne (tgt := 53) hx hb dX7_both_46 (by decide) (fun c46 => ?_) (fun c46 => ?_)
          · have h := o_f c46 h
            refine lv_aload_n hx hb dX7_both_53 rfl (lv_at hl 1 rfl) ?_
            refine lv_iload_n hx hb dX7_both_54 rfl (lv_at hl 2 rfl) ?_
            refine lv_if_eq (tgt := 62) hx hb dX7_both_55 (by decide) (fun c55 => ?_) (fun c55 => ?_)
            · have h := o_t c55 h
              refine lv_iconst (v := 4) hx hb dX7_both_62 (by decide) ?_
              exact w_X7_both_63 CX hK hsz used kind left_ right_ many bits rows table y2 y3 4 _ _ _ h hP hD hS (lv_sub hl [3, 4] rfl)
            · have h := o_f c55 h
              refine lv_iconst (v := 3) hx hb dX7_both_58 (by decide) ?_
              refine lv_goto (tgt := 63) hx hb dX7_both_59 (by decide) ?_
              exact w_X7_both_63 CX hK hsz used kind left_ right_ many bits rows table y2 y3 3 _ _ _ h hP hD hS (lv_sub hl [3, 4] rfl)
          · have h := o_t c46 h
            refine lv_iload_n hx hb dX7_both_49 rfl (lv_at hl 3 rfl) ?_
            refine lv_goto (tgt := 68) hx hb dX7_both_50 (by decide) ?_
            exact w_X7_both_68 CX hK hsz used kind left_ right_ many bits rows table y2 _ _ _ h hP hD hS (lv_sub hl [] rfl)
        · have h := o_t c36 h
          exact w_X7_both_39 CX hK hsz used kind left_ right_ many bits rows table y3 _ _ _ h hP hD hS (lv_sub hl [4] rfl)
    · have h := o_t c20 h
      exact w_X7_both_23 CX hK hsz used kind left_ right_ many bits rows table s0 _ _ _ h hP hD hS (lv_sub hl [0] rfl)
end G_X7_both
set_option maxHeartbeats 4000000 in
set_option maxRecDepth 100000 in
theorem c_X7_both (l : Launch) (D : va_G) (cI cJ cB : ClassId) (a0 a_roots a_moved a_text a_out a_above a_below a_sum a_point a_pointRows a_pointSorts a_kind a_left a_right a_many a_bits a_rows a_table a_row : Nat) (sz : Nat) (thrown : Int32) (used : Int32) (rooted : Int32) (size : Int32) (outSize : Int32) (points : Int32) (takenOut : Int32) (great : Int32) (at_ : Int32) (fault : Int32) (open_ : Int32) (wrong : Int32) (by_ : Int64) (sort : Int32) (variable_ : Int32) (pointCount : Int32) (kind : Nat → Int32) (left_ : Nat → Int32) (right_ : Nat → Int32) (many : Nat → Int32) (bits : Nat → Int32) (rows : Nat → Int32) (table : Nat → Int32) (row : Nat → Int64) (x1 : Int32) (x2 : Int32) (x3 : Int32) (N : Nat) {z : Int32 × (Int32) × (Nat → Int32) × (Nat → Int32) × (Nat → Int32) × (Nat → Int32) × (Nat → Int32) × (Nat → Int32) × (Nat → Int32)} (h : f_X7_both N used kind left_ right_ many bits rows table row x1 x2 x3 = some z) : Mg l yX7_both cX7_both 5 (some .int) rm_X7_both D (ty0 cI cJ cB) [.ref a0, .int x1, .int x2, .int x3] sz (ws_X7_both cI cJ cB a0 a_roots a_moved a_text a_out a_above a_below a_sum a_point a_pointRows a_pointSorts a_kind a_left a_right a_many a_bits a_rows a_table a_row thrown used rooted size outSize points takenOut great at_ fault open_ wrong by_ sort variable_ pointCount kind left_ right_ many bits rows table row) (some (.int z.1)) (ws_X7_both cI cJ cB a0 a_roots a_moved a_text a_out a_above a_below a_sum a_point a_pointRows a_pointSorts a_kind a_left a_right a_many a_bits a_rows a_table a_row thrown z.2.1 rooted size outSize points takenOut great at_ fault open_ wrong by_ sort variable_ pointCount z.2.2.1 z.2.2.2.1 z.2.2.2.2.1 z.2.2.2.2.2.1 z.2.2.2.2.2.2.1 z.2.2.2.2.2.2.2.1 z.2.2.2.2.2.2.2.2 row) := by
  refine Mg.of (by decide) (Nat.le_of_ble_eq_true rfl) ?_
  intro p e s m below meth c CX hK hsz hP hD ls hl
  have CX : Cx p m c cX7_both 5 s ([.ref a0, .int x1, .int x2, .int x3] : List Value).toArray (Cond.code yX7_both cX7_both 5 (some .int)) RX7 meth (some .int) := CX
  obtain ⟨F, hr, hlk, hNw⟩ := id CX
  have hx := F.1
  have hb := F.2.1
  have hown := F.2.2.2.1
  have hl : lv_has ls 5 [(0, .ref a0), (1, .int x1), (2, .int x2), (3, .int x3)] := hl
  have hS : va_S (va_A (ws_X7_both cI cJ cB a0 a_roots a_moved a_text a_out a_above a_below a_sum a_point a_pointRows a_pointSorts a_kind a_left a_right a_many a_bits a_rows a_table a_row thrown used rooted size outSize points takenOut great at_ fault open_ wrong by_ sort variable_ pointCount kind left_ right_ many bits rows table row) sz) s.heap s.heap [] := va_S.rf
  have hA : ∀ q, s.heap.size ≤ q → va_A (ws_X7_both cI cJ cB a0 a_roots a_moved a_text a_out a_above a_below a_sum a_point a_pointRows a_pointSorts a_kind a_left a_right a_many a_bits a_rows a_table a_row thrown used rooted size outSize points takenOut great at_ fault open_ wrong by_ sort variable_ pointCount kind left_ right_ many bits rows table row) sz q := fun q hq => Or.inr (hsz ▸ hq)
  unfold f_X7_both at h
  refine lv_iload_n hx hb dX7_both_0 rfl (lv_at hl 1 rfl) ?_
  refine lv_if_eq (tgt := 8) hx hb dX7_both_1 (by decide) (fun c1 => ?_) (fun c1 => ?_)
  · have h := o_t c1 h
    refine lv_iconst (v := 0) hx hb dX7_both_8 (by decide) ?_
    exact w_X7_both_9 CX hK hsz used kind left_ right_ many bits rows table x1 x2 x3 0 _ _ _ h hP hD hS (lv_sub hl [0, 1, 2, 3] rfl)
  · have h := o_f c1 h
    refine lv_iconst (v := 1) hx hb dX7_both_4 (by decide) ?_
    refine lv_goto (tgt := 9) hx hb dX7_both_5 (by decide) ?_
    exact w_X7_both_9 CX hK hsz used kind left_ right_ many bits rows table x1 x2 x3 1 _ _ _ h hP hD hS (lv_sub hl [0, 1, 2, 3] rfl)
section G_X7_quantified
abbrev ws_X7_quantified (cI cJ cB : ClassId) (a0 a_roots a_moved a_text a_out a_above a_below a_sum a_point a_pointRows a_pointSorts a_kind a_left a_right a_many a_bits a_rows a_table a_row : Nat) (thrown : Int32) (used : Int32) (rooted : Int32) (size : Int32) (outSize : Int32) (points : Int32) (takenOut : Int32) (great : Int32) (at_ : Int32) (fault : Int32) (open_ : Int32) (wrong : Int32) (by_ : Int64) (sort : Int32) (variable_ : Int32) (pointCount : Int32) (kind : Nat → Int32) (left_ : Nat → Int32) (right_ : Nat → Int32) (many : Nat → Int32) (bits : Nat → Int32) (rows : Nat → Int32) (table : Nat → Int32) (row : Nat → Int64) : va_W := [(a0, .inr (9, [.int thrown, .ref a_kind, .ref a_left, .ref a_right, .ref a_many, .ref a_bits, .ref a_rows, .ref a_table, .int used, .ref a_roots, .int rooted, .ref a_moved, .ref a_text, .int size, .ref a_out, .int outSize, .ref a_above, .ref a_below, .int points, .int takenOut, .int great, .ref a_row, .int at_, .int fault, .int open_, .int wrong, .ref a_sum, .ref a_point, .long by_, .int sort, .int variable_, .ref a_pointRows, .ref a_pointSorts, .int pointCount])), (a_kind, .inl (cI, 24000, .inl kind)), (a_left, .inl (cI, 24000, .inl left_)), (a_right, .inl (cI, 24000, .inl right_)), (a_many, .inl (cI, 24000, .inl many)), (a_bits, .inl (cI, 24000, .inl bits)), (a_rows, .inl (cI, 216000, .inl rows)), (a_table, .inl (cI, 65536, .inl table)), (a_row, .inl (cJ, 9, .inr (.inl row)))]
abbrev rm_X7_quantified : Room := { frames := 2, cells := 0, slots := 0, locals := 55 }
def f_X7_quantified_33 (N : Nat) (used : Int32) (kind : Nat → Int32) (left_ : Nat → Int32) (right_ : Nat → Int32) (many : Nat → Int32) (bits : Nat → Int32) (rows : Nat → Int32) (table : Nat → Int32) (row : Nat → Int64) (s0 : Int32) : Option (Int32 × (Int32) × (Nat → Int32) × (Nat → Int32) × (Nat → Int32) × (Nat → Int32) × (Nat → Int32) × (Nat → Int32) × (Nat → Int32)) := some (s0, used, kind, left_, right_, many, bits, rows, table)
def f_X7_quantified_28 (N : Nat) (used : Int32) (kind : Nat → Int32) (left_ : Nat → Int32) (right_ : Nat → Int32) (many : Nat → Int32) (bits : Nat → Int32) (rows : Nat → Int32) (table : Nat → Int32) (row : Nat → Int64) (y2 : Int32) (y3 : Int32) (s1 : Int32) : Option (Int32 × (Int32) × (Nat → Int32) × (Nat → Int32) × (Nat → Int32) × (Nat → Int32) × (Nat → Int32) × (Nat → Int32) × (Nat → Int32)) := (f_X7_place N used kind left_ right_ many bits rows table row s1 y2 y3).bind (fun z30 => f_X7_quantified_33 N z30.2.1 z30.2.2.1 z30.2.2.2.1 z30.2.2.2.2.1 z30.2.2.2.2.2.1 z30.2.2.2.2.2.2.1 z30.2.2.2.2.2.2.2.1 z30.2.2.2.2.2.2.2.2 row z30.1)
def f_X7_quantified (N : Nat) (used : Int32) (kind : Nat → Int32) (left_ : Nat → Int32) (right_ : Nat → Int32) (many : Nat → Int32) (bits : Nat → Int32) (rows : Nat → Int32) (table : Nat → Int32) (row : Nat → Int64) (x1 : Int32) (x2 : Int32) (x3 : Int32) : Option (Int32 × (Int32) × (Nat → Int32) × (Nat → Int32) × (Nat → Int32) × (Nat → Int32) × (Nat → Int32) × (Nat → Int32) × (Nat → Int32)) := ix x3 24000 (ifb ((((bits x3.toNatClampNeg) >>> (x2 &&& 31)) &&& 1) = 0) (f_X7_quantified_33 N used kind left_ right_ many bits rows table row x3) (ifb (x1 = 0) (f_X7_quantified_28 N used kind left_ right_ many bits rows table row x2 x3 6) (f_X7_quantified_28 N used kind left_ right_ many bits rows table row x2 x3 5)))
variable {p : Program} {l : Launch} {e : Env} {s : State} {m : MethodId} {below : List Frame} {meth : Method} {c : Code} {args : Array Value} {x0 : Cond} {D : va_G} {cI cJ cB : ClassId} {sz N : Nat} {ws0 : va_W} {a0 a_roots a_moved a_text a_out a_above a_below a_sum a_point a_pointRows a_pointSorts a_kind a_left a_right a_many a_bits a_rows a_table a_row : Nat} {thrown : Int32} {rooted : Int32} {size : Int32} {outSize : Int32} {points : Int32} {takenOut : Int32} {great : Int32} {at_ : Int32} {fault : Int32} {open_ : Int32} {wrong : Int32} {by_ : Int64} {sort : Int32} {variable_ : Int32} {pointCount : Int32} {row : Nat → Int64} {z : Int32 × (Int32) × (Nat → Int32) × (Nat → Int32) × (Nat → Int32) × (Nat → Int32) × (Nat → Int32) × (Nat → Int32) × (Nat → Int32)}
set_option maxHeartbeats 4000000 in
set_option maxRecDepth 100000 in
theorem w_X7_quantified_33 (CX : Cx p m c cX7_quantified 4 s args x0 RX7 meth (some .int)) (hK : va_K D vwCl (ty0 cI cJ cB) s) (hsz : s.heap.size = sz) : ∀ (used : Int32) (kind : Nat → Int32) (left_ : Nat → Int32) (right_ : Nat → Int32) (many : Nat → Int32) (bits : Nat → Int32) (rows : Nat → Int32) (table : Nat → Int32) (s0 : Int32) (H : Heap) (locs : List Loc) (ls : Array Slot), f_X7_quantified_33 N used kind left_ right_ many bits rows table row s0 = some z → va_P D vwCl (ws_X7_quantified cI cJ cB a0 a_roots a_moved a_text a_out a_above a_below a_sum a_point a_pointRows a_pointSorts a_kind a_left a_right a_many a_bits a_rows a_table a_row thrown used rooted size outSize points takenOut great at_ fault open_ wrong by_ sort variable_ pointCount kind left_ right_ many bits rows table row) H → va_D (va_A ws0 sz) (ws_X7_quantified cI cJ cB a0 a_roots a_moved a_text a_out a_above a_below a_sum a_point a_pointRows a_pointSorts a_kind a_left a_right a_many a_bits a_rows a_table a_row thrown used rooted size outSize points takenOut great at_ fault open_ wrong by_ sort variable_ pointCount kind left_ right_ many bits rows table row) → va_S (va_A ws0 sz) s.heap H locs → lv_has ls 4 [] → W p l e rm_X7_quantified s m args below meth c H locs 0 0 (MQ below (gQ D sz ws0 (ws_X7_quantified cI cJ cB a0 a_roots a_moved a_text a_out a_above a_below a_sum a_point a_pointRows a_pointSorts a_kind a_left a_right a_many a_bits a_rows a_table a_row thrown z.2.1 rooted size outSize points takenOut great at_ fault open_ wrong by_ sort variable_ pointCount z.2.2.1 z.2.2.2.1 z.2.2.2.2.1 z.2.2.2.2.2.1 z.2.2.2.2.2.2.1 z.2.2.2.2.2.2.2.1 z.2.2.2.2.2.2.2.2 row) (some (.int z.1))) args s 0 0 (va_A ws0 sz)) (F0 m 33 ls [.int s0]) := by
  obtain ⟨F, hr, hlk, hNw⟩ := id CX
  have hx := F.1
  have hb := F.2.1
  have hown := F.2.2.2.1
  have hA : ∀ q, s.heap.size ≤ q → va_A ws0 sz q := fun q hq => Or.inr (hsz ▸ hq)
  intro used kind left_ right_ many bits rows table s0 H locs ls h hP hD hS hl
  unfold f_X7_quantified_33 at h
  obtain rfl := Option.some.inj h
  exact r_ret (v := s0) F hr hlk rfl dX7_quantified_33 hsz hP hD hS
set_option maxHeartbeats 4000000 in
set_option maxRecDepth 100000 in
theorem w_X7_quantified_28 (CX : Cx p m c cX7_quantified 4 s args x0 RX7 meth (some .int)) (hK : va_K D vwCl (ty0 cI cJ cB) s) (hsz : s.heap.size = sz) : ∀ (used : Int32) (kind : Nat → Int32) (left_ : Nat → Int32) (right_ : Nat → Int32) (many : Nat → Int32) (bits : Nat → Int32) (rows : Nat → Int32) (table : Nat → Int32) (y2 : Int32) (y3 : Int32) (s1 : Int32) (H : Heap) (locs : List Loc) (ls : Array Slot), f_X7_quantified_28 N used kind left_ right_ many bits rows table row y2 y3 s1 = some z → va_P D vwCl (ws_X7_quantified cI cJ cB a0 a_roots a_moved a_text a_out a_above a_below a_sum a_point a_pointRows a_pointSorts a_kind a_left a_right a_many a_bits a_rows a_table a_row thrown used rooted size outSize points takenOut great at_ fault open_ wrong by_ sort variable_ pointCount kind left_ right_ many bits rows table row) H → va_D (va_A ws0 sz) (ws_X7_quantified cI cJ cB a0 a_roots a_moved a_text a_out a_above a_below a_sum a_point a_pointRows a_pointSorts a_kind a_left a_right a_many a_bits a_rows a_table a_row thrown used rooted size outSize points takenOut great at_ fault open_ wrong by_ sort variable_ pointCount kind left_ right_ many bits rows table row) → va_S (va_A ws0 sz) s.heap H locs → lv_has ls 4 [(2, .int y2), (3, .int y3)] → W p l e rm_X7_quantified s m args below meth c H locs 0 0 (MQ below (gQ D sz ws0 (ws_X7_quantified cI cJ cB a0 a_roots a_moved a_text a_out a_above a_below a_sum a_point a_pointRows a_pointSorts a_kind a_left a_right a_many a_bits a_rows a_table a_row thrown z.2.1 rooted size outSize points takenOut great at_ fault open_ wrong by_ sort variable_ pointCount z.2.2.1 z.2.2.2.1 z.2.2.2.2.1 z.2.2.2.2.2.1 z.2.2.2.2.2.2.1 z.2.2.2.2.2.2.2.1 z.2.2.2.2.2.2.2.2 row) (some (.int z.1))) args s 0 0 (va_A ws0 sz)) (F0 m 28 ls [.int s1, .ref a0]) := by
  obtain ⟨F, hr, hlk, hNw⟩ := id CX
  have hx := F.1
  have hb := F.2.1
  have hown := F.2.2.2.1
  have hA : ∀ q, s.heap.size ≤ q → va_A ws0 sz q := fun q hq => Or.inr (hsz ▸ hq)
  intro used kind left_ right_ many bits rows table y2 y3 s1 H locs ls h hP hD hS hl
  unfold f_X7_quantified_28 at h
  refine lv_iload_n hx hb dX7_quantified_28 rfl (lv_at hl 0 rfl) ?_
  refine lv_iload_n hx hb dX7_quantified_29 rfl (lv_at hl 1 rfl) ?_
  obtain ⟨z30, hz30, h⟩ := o_b h
  refine k_v (wn := (ws_X7_quantified cI cJ cB a0 a_roots a_moved a_text a_out a_above a_below a_sum a_point a_pointRows a_pointSorts a_kind a_left a_right a_many a_bits a_rows a_table a_row thrown z30.2.1 rooted size outSize points takenOut great at_ fault open_ wrong by_ sort variable_ pointCount z30.2.2.1 z30.2.2.2.1 z30.2.2.2.2.1 z30.2.2.2.2.2.1 z30.2.2.2.2.2.2.1 z30.2.2.2.2.2.2.2.1 z30.2.2.2.2.2.2.2.2 row)) (As := [.int s1, .int y2, .int y3]) (rest := []) F hNw hK hP hD hS hA (c_X7_place l D cI cJ cB a0 a_roots a_moved a_text a_out a_above a_below a_sum a_point a_pointRows a_pointSorts a_kind a_left a_right a_many a_bits a_rows a_table a_row _ thrown used rooted size outSize points takenOut great at_ fault open_ wrong by_ sort variable_ pointCount kind left_ right_ many bits rows table row s1 y2 y3 N hz30) wm_1082 cv_X7_place [0, 1, 2, 3, 4, 5, 6, 7, 8] [] [0, 1, 2, 3, 4, 5, 6, 7, 8] (⟨rfl, rfl, rfl, by decide, rfl⟩ : Ix [0, 1, 2, 3, 4, 5, 6, 7, 8] [] [0, 1, 2, 3, 4, 5, 6, 7, 8] 9) rfl (hN_of 0 9 (by decide +kernel) rfl (by decide +kernel) rfl) rfl rfl rfl rfl ⟨rfl, rfl, by decide, by decide⟩ hl.1 rfl (Nat.le_of_ble_eq_true rfl) ⟨Nat.zero_le _, Nat.zero_le _⟩ dX7_quantified_30 (fun H locs hP hD hS => ?_)
  exact w_X7_quantified_33 CX hK hsz z30.2.1 z30.2.2.1 z30.2.2.2.1 z30.2.2.2.2.1 z30.2.2.2.2.2.1 z30.2.2.2.2.2.2.1 z30.2.2.2.2.2.2.2.1 z30.2.2.2.2.2.2.2.2 z30.1 _ _ _ h hP hD hS (lv_sub hl [] rfl)
end G_X7_quantified
set_option maxHeartbeats 4000000 in
set_option maxRecDepth 100000 in
theorem c_X7_quantified (l : Launch) (D : va_G) (cI cJ cB : ClassId) (a0 a_roots a_moved a_text a_out a_above a_below a_sum a_point a_pointRows a_pointSorts a_kind a_left a_right a_many a_bits a_rows a_table a_row : Nat) (sz : Nat) (thrown : Int32) (used : Int32) (rooted : Int32) (size : Int32) (outSize : Int32) (points : Int32) (takenOut : Int32) (great : Int32) (at_ : Int32) (fault : Int32) (open_ : Int32) (wrong : Int32) (by_ : Int64) (sort : Int32) (variable_ : Int32) (pointCount : Int32) (kind : Nat → Int32) (left_ : Nat → Int32) (right_ : Nat → Int32) (many : Nat → Int32) (bits : Nat → Int32) (rows : Nat → Int32) (table : Nat → Int32) (row : Nat → Int64) (x1 : Int32) (x2 : Int32) (x3 : Int32) (N : Nat) {z : Int32 × (Int32) × (Nat → Int32) × (Nat → Int32) × (Nat → Int32) × (Nat → Int32) × (Nat → Int32) × (Nat → Int32) × (Nat → Int32)} (h : f_X7_quantified N used kind left_ right_ many bits rows table row x1 x2 x3 = some z) : Mg l yX7_quantified cX7_quantified 4 (some .int) rm_X7_quantified D (ty0 cI cJ cB) [.ref a0, .int x1, .int x2, .int x3] sz (ws_X7_quantified cI cJ cB a0 a_roots a_moved a_text a_out a_above a_below a_sum a_point a_pointRows a_pointSorts a_kind a_left a_right a_many a_bits a_rows a_table a_row thrown used rooted size outSize points takenOut great at_ fault open_ wrong by_ sort variable_ pointCount kind left_ right_ many bits rows table row) (some (.int z.1)) (ws_X7_quantified cI cJ cB a0 a_roots a_moved a_text a_out a_above a_below a_sum a_point a_pointRows a_pointSorts a_kind a_left a_right a_many a_bits a_rows a_table a_row thrown z.2.1 rooted size outSize points takenOut great at_ fault open_ wrong by_ sort variable_ pointCount z.2.2.1 z.2.2.2.1 z.2.2.2.2.1 z.2.2.2.2.2.1 z.2.2.2.2.2.2.1 z.2.2.2.2.2.2.2.1 z.2.2.2.2.2.2.2.2 row) := by
  refine Mg.of (by decide) (Nat.le_of_ble_eq_true rfl) ?_
  intro p e s m below meth c CX hK hsz hP hD ls hl
  have CX : Cx p m c cX7_quantified 4 s ([.ref a0, .int x1, .int x2, .int x3] : List Value).toArray (Cond.code yX7_quantified cX7_quantified 4 (some .int)) RX7 meth (some .int) := CX
  obtain ⟨F, hr, hlk, hNw⟩ := id CX
  have hx := F.1
  have hb := F.2.1
  have hown := F.2.2.2.1
  have hl : lv_has ls 4 [(0, .ref a0), (1, .int x1), (2, .int x2), (3, .int x3)] := hl
  have hS : va_S (va_A (ws_X7_quantified cI cJ cB a0 a_roots a_moved a_text a_out a_above a_below a_sum a_point a_pointRows a_pointSorts a_kind a_left a_right a_many a_bits a_rows a_table a_row thrown used rooted size outSize points takenOut great at_ fault open_ wrong by_ sort variable_ pointCount kind left_ right_ many bits rows table row) sz) s.heap s.heap [] := va_S.rf
  have hA : ∀ q, s.heap.size ≤ q → va_A (ws_X7_quantified cI cJ cB a0 a_roots a_moved a_text a_out a_above a_below a_sum a_point a_pointRows a_pointSorts a_kind a_left a_right a_many a_bits a_rows a_table a_row thrown used rooted size outSize points takenOut great at_ fault open_ wrong by_ sort variable_ pointCount kind left_ right_ many bits rows table row) sz q := fun q hq => Or.inr (hsz ▸ hq)
  unfold f_X7_quantified at h
  refine lv_aload_n hx hb dX7_quantified_0 rfl (lv_at hl 0 rfl) ?_
  refine r_get F hK hP 0 5 rfl inW_X7 wm_1097 rfl (by decide) rfl dX7_quantified_1 ?_
  refine lv_iload_n hx hb dX7_quantified_4 rfl (lv_at hl 3 rfl) ?_
  obtain ⟨hi5, h⟩ := o_ix h
  refine va_iald hx hb hK hP 5 0 rfl rfl hi5 dX7_quantified_5 ?_
  refine lv_iload_n hx hb dX7_quantified_6 rfl (lv_at hl 2 rfl) ?_
  refine lv_ishr hx hb dX7_quantified_7 ?_
  refine lv_iconst (v := 1) hx hb dX7_quantified_8 (by decide) ?_
  refine lv_iand hx hb dX7_quantified_9 ?_
  refine lv_if_ne (tgt := 17) hx hb dX7_quantified_10 (by decide) (fun c10 => ?_) (fun c10 => ?_)
  · have h := o_f c10 h
    refine lv_aload_n hx hb dX7_quantified_17 rfl (lv_at hl 0 rfl) ?_
    refine lv_iload_n hx hb dX7_quantified_18 rfl (lv_at hl 1 rfl) ?_
    refine lv_if_eq (tgt := 26) hx hb dX7_quantified_19 (by decide) (fun c19 => ?_) (fun c19 => ?_)
    · have h := o_t c19 h
      refine lv_bipush (v := 6) hx hb dX7_quantified_26 (by decide) ?_
      exact w_X7_quantified_28 CX hK hsz used kind left_ right_ many bits rows table x2 x3 6 _ _ _ h hP hD hS (lv_sub hl [2, 3] rfl)
    · have h := o_f c19 h
      refine lv_iconst (v := 5) hx hb dX7_quantified_22 (by decide) ?_
      refine lv_goto (tgt := 28) hx hb dX7_quantified_23 (by decide) ?_
      exact w_X7_quantified_28 CX hK hsz used kind left_ right_ many bits rows table x2 x3 5 _ _ _ h hP hD hS (lv_sub hl [2, 3] rfl)
  · have h := o_t c10 h
    refine lv_iload_n hx hb dX7_quantified_13 rfl (lv_at hl 3 rfl) ?_
    refine lv_goto (tgt := 33) hx hb dX7_quantified_14 (by decide) ?_
    exact w_X7_quantified_33 CX hK hsz used kind left_ right_ many bits rows table x3 _ _ _ h hP hD hS (lv_sub hl [] rfl)
section G_X7_divisor
abbrev ws_X7_divisor (cI cJ cB : ClassId) : va_W := []
abbrev rm_X7_divisor : Room := { frames := 0, cells := 0, slots := 0, locals := 0 }
def f_X7_divisor_28 (N : Nat) : Nat → Int64 → Int64 → Option (Int64)
  | 0 => fun _ _ => none
  | n + 1 => fun y4 y6 => ifb ((lg_cmp y6 0) = 0) (some y4) (ckp (¬ y6 = 0) (f_X7_divisor_28 N n y6 (y4 - y4 / y6 * y6)))
def f_X7_divisor_26 (N : Nat) (y4 : Int64) (s0 : Int64) : Option (Int64) := f_X7_divisor_28 N N y4 s0
def f_X7_divisor_12 (N : Nat) (y2 : Int64) (s0 : Int64) : Option (Int64) := ifb (0 ≤ (lg_cmp y2 0)) (f_X7_divisor_26 N s0 y2) (f_X7_divisor_26 N s0 (-y2))
def f_X7_divisor (N : Nat) (x1 : Int64) (x2 : Int64) : Option (Int64) := ifb (0 ≤ (lg_cmp x1 0)) (f_X7_divisor_12 N x2 x1) (f_X7_divisor_12 N x2 (-x1))
variable {p : Program} {l : Launch} {e : Env} {s : State} {m : MethodId} {below : List Frame} {meth : Method} {c : Code} {args : Array Value} {x0 : Cond} {D : va_G} {cI cJ cB : ClassId} {sz N : Nat} {ws0 : va_W} {z : Int64}
set_option maxHeartbeats 4000000 in
set_option maxRecDepth 100000 in
theorem w_X7_divisor_28 (CX : Cx p m c cX7_divisor 10 s args x0 RX7 meth (some .long)) (hK : va_K D vwCl (ty0 cI cJ cB) s) (hsz : s.heap.size = sz) : ∀ (n : Nat), ∀ (y4 : Int64) (y6 : Int64) (H : Heap) (locs : List Loc) (ls : Array Slot), f_X7_divisor_28 N n y4 y6 = some z → va_P D vwCl (ws_X7_divisor cI cJ cB) H → va_D (va_A ws0 sz) (ws_X7_divisor cI cJ cB) → va_S (va_A ws0 sz) s.heap H locs → lv_has ls 10 [(4, .long y4), (6, .long y6)] → W p l e rm_X7_divisor s m args below meth c H locs 0 0 (MQ below (gQ D sz ws0 (ws_X7_divisor cI cJ cB) (some (.long z))) args s 0 0 (va_A ws0 sz)) (F0 m 28 ls []) := by
  obtain ⟨F, hr, hlk, hNw⟩ := id CX
  have hx := F.1
  have hb := F.2.1
  have hown := F.2.2.2.1
  have hA : ∀ q, s.heap.size ≤ q → va_A ws0 sz q := fun q hq => Or.inr (hsz ▸ hq)
  intro n
  induction n with
  | zero =>
    intro y4 y6 H locs ls h
    cases h
  | succ n ih =>
    intro y4 y6 H locs ls h hP hD hS hl
    unfold f_X7_divisor_28 at h
    refine lv_lload hx hb dX7_divisor_28 (lv_at hl 1 rfl) ?_
    refine lv_lconst (v := 0) hx hb dX7_divisor_30 (by decide) ?_
    refine W.lcmp hx hb dX7_divisor_31 ?_
    refine lv_if_eq (tgt := 53) hx hb dX7_divisor_32 (by decide) (fun c32 => ?_) (fun c32 => ?_)
    · have h := o_t c32 h
      refine lv_lload hx hb dX7_divisor_53 (lv_at hl 0 rfl) ?_
      obtain rfl := Option.some.inj h
      exact r_lret F hr hlk dX7_divisor_55 hsz hP hD hS
    · have h := o_f c32 h
      refine lv_lload hx hb dX7_divisor_35 (lv_at hl 0 rfl) ?_
      refine lv_lload hx hb dX7_divisor_37 (lv_at hl 1 rfl) ?_
      obtain ⟨hc39, h⟩ := o_c h
      refine lv_lrem hx hb dX7_divisor_39 hc39 ?_
      refine lv_lstore (lv' := [(8, .long (y4 - y4 / y6 * y6)), (4, .long y4), (6, .long y6)]) hx hb dX7_divisor_40 hl (by decide) rfl (fun ls hl => ?_)
      refine lv_lload hx hb dX7_divisor_42 (lv_at hl 2 rfl) ?_
      refine lv_lstore (lv' := [(4, .long y6), (8, .long (y4 - y4 / y6 * y6)), (6, .long y6)]) hx hb dX7_divisor_44 hl (by decide) rfl (fun ls hl => ?_)
      refine lv_lload hx hb dX7_divisor_46 (lv_at hl 1 rfl) ?_
      refine lv_lstore (lv' := [(6, .long (y4 - y4 / y6 * y6)), (4, .long y6), (8, .long (y4 - y4 / y6 * y6))]) hx hb dX7_divisor_48 hl (by decide) rfl (fun ls hl => ?_)
      refine lv_goto (tgt := 28) hx hb dX7_divisor_50 (by decide) ?_
      exact ih y6 (y4 - y4 / y6 * y6) _ _ _ h hP hD hS (lv_sub hl [1, 0] rfl)
set_option maxHeartbeats 4000000 in
set_option maxRecDepth 100000 in
theorem w_X7_divisor_26 (CX : Cx p m c cX7_divisor 10 s args x0 RX7 meth (some .long)) (hK : va_K D vwCl (ty0 cI cJ cB) s) (hsz : s.heap.size = sz) : ∀ (y4 : Int64) (s0 : Int64) (H : Heap) (locs : List Loc) (ls : Array Slot), f_X7_divisor_26 N y4 s0 = some z → va_P D vwCl (ws_X7_divisor cI cJ cB) H → va_D (va_A ws0 sz) (ws_X7_divisor cI cJ cB) → va_S (va_A ws0 sz) s.heap H locs → lv_has ls 10 [(4, .long y4)] → W p l e rm_X7_divisor s m args below meth c H locs 0 0 (MQ below (gQ D sz ws0 (ws_X7_divisor cI cJ cB) (some (.long z))) args s 0 0 (va_A ws0 sz)) (F0 m 26 ls [.long s0]) := by
  obtain ⟨F, hr, hlk, hNw⟩ := id CX
  have hx := F.1
  have hb := F.2.1
  have hown := F.2.2.2.1
  have hA : ∀ q, s.heap.size ≤ q → va_A ws0 sz q := fun q hq => Or.inr (hsz ▸ hq)
  intro y4 s0 H locs ls h hP hD hS hl
  unfold f_X7_divisor_26 at h
  refine lv_lstore (lv' := [(6, .long s0), (4, .long y4)]) hx hb dX7_divisor_26 hl (by decide) rfl (fun ls hl => ?_)
  exact w_X7_divisor_28 CX hK hsz N y4 s0 _ _ _ h hP hD hS (lv_sub hl [1, 0] rfl)
set_option maxHeartbeats 4000000 in
set_option maxRecDepth 100000 in
theorem w_X7_divisor_12 (CX : Cx p m c cX7_divisor 10 s args x0 RX7 meth (some .long)) (hK : va_K D vwCl (ty0 cI cJ cB) s) (hsz : s.heap.size = sz) : ∀ (y2 : Int64) (s0 : Int64) (H : Heap) (locs : List Loc) (ls : Array Slot), f_X7_divisor_12 N y2 s0 = some z → va_P D vwCl (ws_X7_divisor cI cJ cB) H → va_D (va_A ws0 sz) (ws_X7_divisor cI cJ cB) → va_S (va_A ws0 sz) s.heap H locs → lv_has ls 10 [(2, .long y2)] → W p l e rm_X7_divisor s m args below meth c H locs 0 0 (MQ below (gQ D sz ws0 (ws_X7_divisor cI cJ cB) (some (.long z))) args s 0 0 (va_A ws0 sz)) (F0 m 12 ls [.long s0]) := by
  obtain ⟨F, hr, hlk, hNw⟩ := id CX
  have hx := F.1
  have hb := F.2.1
  have hown := F.2.2.2.1
  have hA : ∀ q, s.heap.size ≤ q → va_A ws0 sz q := fun q hq => Or.inr (hsz ▸ hq)
  intro y2 s0 H locs ls h hP hD hS hl
  unfold f_X7_divisor_12 at h
  refine lv_lstore (lv' := [(4, .long s0), (2, .long y2)]) hx hb dX7_divisor_12 hl (by decide) rfl (fun ls hl => ?_)
  refine lv_lload_n hx hb dX7_divisor_14 rfl (lv_at hl 1 rfl) ?_
  refine lv_lconst (v := 0) hx hb dX7_divisor_15 (by decide) ?_
  refine W.lcmp hx hb dX7_divisor_16 ?_
  refine lv_if_ge (tgt := 25) hx hb dX7_divisor_17 (by decide) (fun c17 => ?_) (fun c17 => ?_)
  · have h := o_t c17 h
    refine lv_lload_n hx hb dX7_divisor_25 rfl (lv_at hl 1 rfl) ?_
    exact w_X7_divisor_26 CX hK hsz s0 y2 _ _ _ h hP hD hS (lv_sub hl [0] rfl)
  · have h := o_f c17 h
    refine lv_lload_n hx hb dX7_divisor_20 rfl (lv_at hl 1 rfl) ?_
    refine lv_lneg hx hb dX7_divisor_21 ?_
    refine lv_goto (tgt := 26) hx hb dX7_divisor_22 (by decide) ?_
    exact w_X7_divisor_26 CX hK hsz s0 (-y2) _ _ _ h hP hD hS (lv_sub hl [0] rfl)
end G_X7_divisor
set_option maxHeartbeats 4000000 in
set_option maxRecDepth 100000 in
theorem c_X7_divisor (l : Launch) (D : va_G) (cI cJ cB : ClassId) (sz : Nat) (x1 : Int64) (x2 : Int64) (N : Nat) {z : Int64} (h : f_X7_divisor N x1 x2 = some z) : Mg l yX7_divisor cX7_divisor 10 (some .long) rm_X7_divisor D (ty0 cI cJ cB) [.long x1, .long x2] sz (ws_X7_divisor cI cJ cB) (some (.long z)) (ws_X7_divisor cI cJ cB) := by
  refine Mg.of (by decide) (Nat.le_of_ble_eq_true rfl) ?_
  intro p e s m below meth c CX hK hsz hP hD ls hl
  have CX : Cx p m c cX7_divisor 10 s ([.long x1, .long x2] : List Value).toArray (Cond.code yX7_divisor cX7_divisor 10 (some .long)) RX7 meth (some .long) := CX
  obtain ⟨F, hr, hlk, hNw⟩ := id CX
  have hx := F.1
  have hb := F.2.1
  have hown := F.2.2.2.1
  have hl : lv_has ls 10 [(0, .long x1), (2, .long x2)] := hl
  have hS : va_S (va_A (ws_X7_divisor cI cJ cB) sz) s.heap s.heap [] := va_S.rf
  have hA : ∀ q, s.heap.size ≤ q → va_A (ws_X7_divisor cI cJ cB) sz q := fun q hq => Or.inr (hsz ▸ hq)
  unfold f_X7_divisor at h
  refine lv_lload_n hx hb dX7_divisor_0 rfl (lv_at hl 0 rfl) ?_
  refine lv_lconst (v := 0) hx hb dX7_divisor_1 (by decide) ?_
  refine W.lcmp hx hb dX7_divisor_2 ?_
  refine lv_if_ge (tgt := 11) hx hb dX7_divisor_3 (by decide) (fun c3 => ?_) (fun c3 => ?_)
  · have h := o_t c3 h
    refine lv_lload_n hx hb dX7_divisor_11 rfl (lv_at hl 0 rfl) ?_
    exact w_X7_divisor_12 CX hK hsz x2 x1 _ _ _ h hP hD hS (lv_sub hl [1] rfl)
  · have h := o_f c3 h
    refine lv_lload_n hx hb dX7_divisor_6 rfl (lv_at hl 0 rfl) ?_
    refine lv_lneg hx hb dX7_divisor_7 ?_
    refine lv_goto (tgt := 12) hx hb dX7_divisor_8 (by decide) ?_
    exact w_X7_divisor_12 CX hK hsz x2 (-x1) _ _ _ h hP hD hS (lv_sub hl [1] rfl)
section G_X7_atom
abbrev ws_X7_atom (cI cJ cB : ClassId) (a0 a_roots a_moved a_text a_out a_above a_below a_sum a_point a_pointRows a_pointSorts a_kind a_left a_right a_many a_bits a_rows a_table a_row : Nat) (thrown : Int32) (used : Int32) (rooted : Int32) (size : Int32) (outSize : Int32) (points : Int32) (takenOut : Int32) (great : Int32) (at_ : Int32) (fault : Int32) (open_ : Int32) (wrong : Int32) (by_ : Int64) (sort : Int32) (variable_ : Int32) (pointCount : Int32) (kind : Nat → Int32) (left_ : Nat → Int32) (right_ : Nat → Int32) (many : Nat → Int32) (bits : Nat → Int32) (rows : Nat → Int32) (table : Nat → Int32) (row : Nat → Int64) : va_W := [(a0, .inr (9, [.int thrown, .ref a_kind, .ref a_left, .ref a_right, .ref a_many, .ref a_bits, .ref a_rows, .ref a_table, .int used, .ref a_roots, .int rooted, .ref a_moved, .ref a_text, .int size, .ref a_out, .int outSize, .ref a_above, .ref a_below, .int points, .int takenOut, .int great, .ref a_row, .int at_, .int fault, .int open_, .int wrong, .ref a_sum, .ref a_point, .long by_, .int sort, .int variable_, .ref a_pointRows, .ref a_pointSorts, .int pointCount])), (a_kind, .inl (cI, 24000, .inl kind)), (a_left, .inl (cI, 24000, .inl left_)), (a_right, .inl (cI, 24000, .inl right_)), (a_many, .inl (cI, 24000, .inl many)), (a_bits, .inl (cI, 24000, .inl bits)), (a_rows, .inl (cI, 216000, .inl rows)), (a_table, .inl (cI, 65536, .inl table)), (a_row, .inl (cJ, 9, .inr (.inl row)))]
abbrev rm_X7_atom : Room := { frames := 2, cells := 0, slots := 0, locals := 55 }
def f_X7_atom_58 (K8 : Int32 → Int32 → (Nat → Int32) → (Nat → Int32) → (Nat → Int32) → (Nat → Int32) → (Nat → Int32) → (Nat → Int32) → (Nat → Int32) → (Nat → Int64) → Int32 → Int64 → Int32 → Int32 → Option (Int32 × (Int32) × (Int32) × (Nat → Int32) × (Nat → Int32) × (Nat → Int32) × (Nat → Int32) × (Nat → Int32) × (Nat → Int32) × (Nat → Int32) × (Nat → Int64))) (N : Nat) (used : Int32) (great : Int32) (kind : Nat → Int32) (left_ : Nat → Int32) (right_ : Nat → Int32) (many : Nat → Int32) (bits : Nat → Int32) (rows : Nat → Int32) (table : Nat → Int32) (row : Nat → Int64) (y1 : Int32) (y2 : Int64) (y5 : Int32) (s0 : Int32) : Option (Int32 × (Int32) × (Int32) × (Nat → Int32) × (Nat → Int32) × (Nat → Int32) × (Nat → Int32) × (Nat → Int32) × (Nat → Int32) × (Nat → Int32) × (Nat → Int64)) := K8 used great kind left_ right_ many bits rows table row y1 y2 s0 (y5 + 1)
def f_X7_atom_56 (K8 : Int32 → Int32 → (Nat → Int32) → (Nat → Int32) → (Nat → Int32) → (Nat → Int32) → (Nat → Int32) → (Nat → Int32) → (Nat → Int32) → (Nat → Int64) → Int32 → Int64 → Int32 → Int32 → Option (Int32 × (Int32) × (Int32) × (Nat → Int32) × (Nat → Int32) × (Nat → Int32) × (Nat → Int32) × (Nat → Int32) × (Nat → Int32) × (Nat → Int32) × (Nat → Int64))) (N : Nat) (used : Int32) (great : Int32) (kind : Nat → Int32) (left_ : Nat → Int32) (right_ : Nat → Int32) (many : Nat → Int32) (bits : Nat → Int32) (rows : Nat → Int32) (table : Nat → Int32) (row : Nat → Int64) (y1 : Int32) (y2 : Int64) (y4 : Int32) (y5 : Int32) : Option (Int32 × (Int32) × (Int32) × (Nat → Int32) × (Nat → Int32) × (Nat → Int32) × (Nat → Int32) × (Nat → Int32) × (Nat → Int32) × (Nat → Int32) × (Nat → Int64)) := f_X7_atom_58 K8 N used great kind left_ right_ many bits rows table row y1 y2 y5 y4
def f_X7_atom_152 (N : Nat) (used : Int32) (great : Int32) (kind : Nat → Int32) (left_ : Nat → Int32) (right_ : Nat → Int32) (many : Nat → Int32) (bits : Nat → Int32) (rows : Nat → Int32) (table : Nat → Int32) (row : Nat → Int64) (s1 : Int32) : Option (Int32 × (Int32) × (Int32) × (Nat → Int32) × (Nat → Int32) × (Nat → Int32) × (Nat → Int32) × (Nat → Int32) × (Nat → Int32) × (Nat → Int32) × (Nat → Int64)) := (f_X7_truth N s1).bind (fun z152 => some (z152, used, great, kind, left_, right_, many, bits, rows, table, row))
def f_X7_atom_238 (K179 : Int32 → Int32 → (Nat → Int32) → (Nat → Int32) → (Nat → Int32) → (Nat → Int32) → (Nat → Int32) → (Nat → Int32) → (Nat → Int32) → (Nat → Int64) → Int32 → Int64 → Int32 → Option (Int32 × (Int32) × (Int32) × (Nat → Int32) × (Nat → Int32) × (Nat → Int32) × (Nat → Int32) × (Nat → Int32) × (Nat → Int32) × (Nat → Int32) × (Nat → Int64))) (N : Nat) (used : Int32) (great : Int32) (kind : Nat → Int32) (left_ : Nat → Int32) (right_ : Nat → Int32) (many : Nat → Int32) (bits : Nat → Int32) (rows : Nat → Int32) (table : Nat → Int32) (row : Nat → Int64) (y1 : Int32) (y2 : Int64) (y5 : Int32) (s1 : Int32) : Option (Int32 × (Int32) × (Int32) × (Nat → Int32) × (Nat → Int32) × (Nat → Int32) × (Nat → Int32) × (Nat → Int32) × (Nat → Int32) × (Nat → Int32) × (Nat → Int64)) := ckp (s1 = 0 ∨ s1 = 1) (K179 used s1 kind left_ right_ many bits rows table row y1 y2 (y5 + 1))
def f_X7_atom_233 (K179 : Int32 → Int32 → (Nat → Int32) → (Nat → Int32) → (Nat → Int32) → (Nat → Int32) → (Nat → Int32) → (Nat → Int32) → (Nat → Int32) → (Nat → Int64) → Int32 → Int64 → Int32 → Option (Int32 × (Int32) × (Int32) × (Nat → Int32) × (Nat → Int32) × (Nat → Int32) × (Nat → Int32) × (Nat → Int32) × (Nat → Int32) × (Nat → Int32) × (Nat → Int64))) (N : Nat) (used : Int32) (great : Int32) (kind : Nat → Int32) (left_ : Nat → Int32) (right_ : Nat → Int32) (many : Nat → Int32) (bits : Nat → Int32) (rows : Nat → Int32) (table : Nat → Int32) (row : Nat → Int64) (y1 : Int32) (y2 : Int64) (y5 : Int32) : Option (Int32 × (Int32) × (Int32) × (Nat → Int32) × (Nat → Int32) × (Nat → Int32) × (Nat → Int32) × (Nat → Int32) × (Nat → Int32) × (Nat → Int32) × (Nat → Int64)) := f_X7_atom_238 K179 N used great kind left_ right_ many bits rows table row y1 y2 y5 1
def f_X7_atom_265 (N : Nat) (used : Int32) (great : Int32) (kind : Nat → Int32) (left_ : Nat → Int32) (right_ : Nat → Int32) (many : Nat → Int32) (bits : Nat → Int32) (rows : Nat → Int32) (table : Nat → Int32) (row : Nat → Int64) (s0 : Int32) : Option (Int32 × (Int32) × (Int32) × (Nat → Int32) × (Nat → Int32) × (Nat → Int32) × (Nat → Int32) × (Nat → Int32) × (Nat → Int32) × (Nat → Int32) × (Nat → Int64)) := some (s0, used, great, kind, left_, right_, many, bits, rows, table, row)
def f_X7_atom_179 (N : Nat) : Nat → Int32 → Int32 → (Nat → Int32) → (Nat → Int32) → (Nat → Int32) → (Nat → Int32) → (Nat → Int32) → (Nat → Int32) → (Nat → Int32) → (Nat → Int64) → Int32 → Int64 → Int32 → Option (Int32 × (Int32) × (Int32) × (Nat → Int32) × (Nat → Int32) × (Nat → Int32) × (Nat → Int32) × (Nat → Int32) × (Nat → Int32) × (Nat → Int32) × (Nat → Int64))
  | 0 => fun _ _ _ _ _ _ _ _ _ _ _ _ _ => none
  | n + 1 => fun used great kind left_ right_ many bits rows table row y1 y2 y5 => ifb (9 ≤ y5) (ifb (great = 0) ((f_X7_place N used kind left_ right_ many bits rows table row 2 y1 0).bind (fun z262 => f_X7_atom_265 N z262.2.1 great z262.2.2.1 z262.2.2.2.1 z262.2.2.2.2.1 z262.2.2.2.2.2.1 z262.2.2.2.2.2.2.1 z262.2.2.2.2.2.2.2.1 z262.2.2.2.2.2.2.2.2 row z262.1)) (f_X7_atom_265 N used great kind left_ right_ many bits rows table row 0)) (ix y5 9 (ckp (¬ y2 = 0) (ix y5 9 (ifb (great = 0) (ix y5 9 (ifb (0 < (lg_cmp ((vp_updL row y5.toNatClampNeg ((row y5.toNatClampNeg) / y2)) y5.toNatClampNeg) 1000000000)) (f_X7_atom_233 (f_X7_atom_179 N n) N used great kind left_ right_ many bits rows table (vp_updL row y5.toNatClampNeg ((row y5.toNatClampNeg) / y2)) y1 y2 y5) (ix y5 9 (ifb (0 ≤ (lg_cmp ((vp_updL row y5.toNatClampNeg ((row y5.toNatClampNeg) / y2)) y5.toNatClampNeg) (-1000000000))) (f_X7_atom_238 (f_X7_atom_179 N n) N used great kind left_ right_ many bits rows table (vp_updL row y5.toNatClampNeg ((row y5.toNatClampNeg) / y2)) y1 y2 y5 0) (f_X7_atom_233 (f_X7_atom_179 N n) N used great kind left_ right_ many bits rows table (vp_updL row y5.toNatClampNeg ((row y5.toNatClampNeg) / y2)) y1 y2 y5))))) (f_X7_atom_233 (f_X7_atom_179 N n) N used great kind left_ right_ many bits rows table (vp_updL row y5.toNatClampNeg ((row y5.toNatClampNeg) / y2)) y1 y2 y5)))))
def f_X7_atom_176 (N : Nat) (used : Int32) (great : Int32) (kind : Nat → Int32) (left_ : Nat → Int32) (right_ : Nat → Int32) (many : Nat → Int32) (bits : Nat → Int32) (rows : Nat → Int32) (table : Nat → Int32) (row : Nat → Int64) (y1 : Int32) (y2 : Int64) : Option (Int32 × (Int32) × (Int32) × (Nat → Int32) × (Nat → Int32) × (Nat → Int32) × (Nat → Int32) × (Nat → Int32) × (Nat → Int32) × (Nat → Int32) × (Nat → Int64)) := f_X7_atom_179 N N used great kind left_ right_ many bits rows table row y1 y2 0
def f_X7_atom_8 (N : Nat) : Nat → Int32 → Int32 → (Nat → Int32) → (Nat → Int32) → (Nat → Int32) → (Nat → Int32) → (Nat → Int32) → (Nat → Int32) → (Nat → Int32) → (Nat → Int64) → Int32 → Int64 → Int32 → Int32 → Option (Int32 × (Int32) × (Int32) × (Nat → Int32) × (Nat → Int32) × (Nat → Int32) × (Nat → Int32) × (Nat → Int32) × (Nat → Int32) × (Nat → Int32) × (Nat → Int64))
  | 0 => fun _ _ _ _ _ _ _ _ _ _ _ _ _ _ => none
  | n + 1 => fun used great kind left_ right_ many bits rows table row y1 y2 y4 y5 => ifb (9 ≤ y5) (ifb (0 ≤ y4) (ifb (2 ≤ y1) (f_X7_atom_176 N used great kind left_ right_ many bits rows table row y1 y2) (ix y4 9 (ifb (0 ≤ (lg_cmp (row y4.toNatClampNeg) 0)) (f_X7_atom_176 N used great kind left_ right_ many bits rows table row y1 y2) (f_X7_atom_176 N used great kind left_ right_ many bits rows table row y1 (-y2))))) (ix 8 9 (ifb (y1 = 0) (ifb ((lg_cmp (row (8 : Int32).toNatClampNeg) 0) = 0) (f_X7_atom_152 N used great kind left_ right_ many bits rows table row 1) (f_X7_atom_152 N used great kind left_ right_ many bits rows table row 0)) (ifb (y1 = 1) (ifb ((lg_cmp (row (8 : Int32).toNatClampNeg) 0) = 0) (f_X7_atom_152 N used great kind left_ right_ many bits rows table row 0) (f_X7_atom_152 N used great kind left_ right_ many bits rows table row 1)) (ifb (y1 = 2) (ifb (0 ≤ (lg_cmp (row (8 : Int32).toNatClampNeg) 0)) (f_X7_atom_152 N used great kind left_ right_ many bits rows table row 0) (f_X7_atom_152 N used great kind left_ right_ many bits rows table row 1)) (ifb (0 < (lg_cmp (row (8 : Int32).toNatClampNeg) 0)) (f_X7_atom_152 N used great kind left_ right_ many bits rows table row 0) (f_X7_atom_152 N used great kind left_ right_ many bits rows table row 1))))))) (ix y5 9 ((f_X7_divisor N y2 (row y5.toNatClampNeg)).bind (fun z23 => ifb (0 ≤ y4) (f_X7_atom_56 (f_X7_atom_8 N n) N used great kind left_ right_ many bits rows table row y1 z23 y4 y5) (ifb (8 ≤ y5) (f_X7_atom_56 (f_X7_atom_8 N n) N used great kind left_ right_ many bits rows table row y1 z23 y4 y5) (ix y5 9 (ifb ((lg_cmp (row y5.toNatClampNeg) 0) = 0) (f_X7_atom_56 (f_X7_atom_8 N n) N used great kind left_ right_ many bits rows table row y1 z23 y4 y5) (f_X7_atom_58 (f_X7_atom_8 N n) N used great kind left_ right_ many bits rows table row y1 z23 y5 y5)))))))
def f_X7_atom (N : Nat) (used : Int32) (great : Int32) (kind : Nat → Int32) (left_ : Nat → Int32) (right_ : Nat → Int32) (many : Nat → Int32) (bits : Nat → Int32) (rows : Nat → Int32) (table : Nat → Int32) (row : Nat → Int64) (x1 : Int32) : Option (Int32 × (Int32) × (Int32) × (Nat → Int32) × (Nat → Int32) × (Nat → Int32) × (Nat → Int32) × (Nat → Int32) × (Nat → Int32) × (Nat → Int32) × (Nat → Int64)) := f_X7_atom_8 N N used great kind left_ right_ many bits rows table row x1 0 (-1) 0
variable {p : Program} {l : Launch} {e : Env} {s : State} {m : MethodId} {below : List Frame} {meth : Method} {c : Code} {args : Array Value} {x0 : Cond} {D : va_G} {cI cJ cB : ClassId} {sz N : Nat} {ws0 : va_W} {a0 a_roots a_moved a_text a_out a_above a_below a_sum a_point a_pointRows a_pointSorts a_kind a_left a_right a_many a_bits a_rows a_table a_row : Nat} {thrown : Int32} {rooted : Int32} {size : Int32} {outSize : Int32} {points : Int32} {takenOut : Int32} {at_ : Int32} {fault : Int32} {open_ : Int32} {wrong : Int32} {by_ : Int64} {sort : Int32} {variable_ : Int32} {pointCount : Int32} {z : Int32 × (Int32) × (Int32) × (Nat → Int32) × (Nat → Int32) × (Nat → Int32) × (Nat → Int32) × (Nat → Int32) × (Nat → Int32) × (Nat → Int32) × (Nat → Int64)}
set_option maxHeartbeats 4000000 in
set_option maxRecDepth 100000 in
theorem w_X7_atom_58 (CX : Cx p m c cX7_atom 7 s args x0 RX7 meth (some .int)) (hK : va_K D vwCl (ty0 cI cJ cB) s) (hsz : s.heap.size = sz) {K8 : Int32 → Int32 → (Nat → Int32) → (Nat → Int32) → (Nat → Int32) → (Nat → Int32) → (Nat → Int32) → (Nat → Int32) → (Nat → Int32) → (Nat → Int64) → Int32 → Int64 → Int32 → Int32 → Option (Int32 × (Int32) × (Int32) × (Nat → Int32) × (Nat → Int32) × (Nat → Int32) × (Nat → Int32) × (Nat → Int32) × (Nat → Int32) × (Nat → Int32) × (Nat → Int64))} (hK8 : ∀ (used : Int32) (great : Int32) (kind : Nat → Int32) (left_ : Nat → Int32) (right_ : Nat → Int32) (many : Nat → Int32) (bits : Nat → Int32) (rows : Nat → Int32) (table : Nat → Int32) (row : Nat → Int64) (y1 : Int32) (y2 : Int64) (y4 : Int32) (y5 : Int32) (H : Heap) (locs : List Loc) (ls : Array Slot), K8 used great kind left_ right_ many bits rows table row y1 y2 y4 y5 = some z → va_P D vwCl (ws_X7_atom cI cJ cB a0 a_roots a_moved a_text a_out a_above a_below a_sum a_point a_pointRows a_pointSorts a_kind a_left a_right a_many a_bits a_rows a_table a_row thrown used rooted size outSize points takenOut great at_ fault open_ wrong by_ sort variable_ pointCount kind left_ right_ many bits rows table row) H → va_D (va_A ws0 sz) (ws_X7_atom cI cJ cB a0 a_roots a_moved a_text a_out a_above a_below a_sum a_point a_pointRows a_pointSorts a_kind a_left a_right a_many a_bits a_rows a_table a_row thrown used rooted size outSize points takenOut great at_ fault open_ wrong by_ sort variable_ pointCount kind left_ right_ many bits rows table row) → va_S (va_A ws0 sz) s.heap H locs → lv_has ls 7 [(0, .ref a0), (1, .int y1), (2, .long y2), (4, .int y4), (5, .int y5)] → W p l e rm_X7_atom s m args below meth c H locs 0 0 (MQ below (gQ D sz ws0 (ws_X7_atom cI cJ cB a0 a_roots a_moved a_text a_out a_above a_below a_sum a_point a_pointRows a_pointSorts a_kind a_left a_right a_many a_bits a_rows a_table a_row thrown z.2.1 rooted size outSize points takenOut z.2.2.1 at_ fault open_ wrong by_ sort variable_ pointCount z.2.2.2.1 z.2.2.2.2.1 z.2.2.2.2.2.1 z.2.2.2.2.2.2.1 z.2.2.2.2.2.2.2.1 z.2.2.2.2.2.2.2.2.1 z.2.2.2.2.2.2.2.2.2.1 z.2.2.2.2.2.2.2.2.2.2) (some (.int z.1))) args s 0 0 (va_A ws0 sz)) (F0 m 8 ls [])) : ∀ (used : Int32) (great : Int32) (kind : Nat → Int32) (left_ : Nat → Int32) (right_ : Nat → Int32) (many : Nat → Int32) (bits : Nat → Int32) (rows : Nat → Int32) (table : Nat → Int32) (row : Nat → Int64) (y1 : Int32) (y2 : Int64) (y5 : Int32) (s0 : Int32) (H : Heap) (locs : List Loc) (ls : Array Slot), f_X7_atom_58 K8 N used great kind left_ right_ many bits rows table row y1 y2 y5 s0 = some z → va_P D vwCl (ws_X7_atom cI cJ cB a0 a_roots a_moved a_text a_out a_above a_below a_sum a_point a_pointRows a_pointSorts a_kind a_left a_right a_many a_bits a_rows a_table a_row thrown used rooted size outSize points takenOut great at_ fault open_ wrong by_ sort variable_ pointCount kind left_ right_ many bits rows table row) H → va_D (va_A ws0 sz) (ws_X7_atom cI cJ cB a0 a_roots a_moved a_text a_out a_above a_below a_sum a_point a_pointRows a_pointSorts a_kind a_left a_right a_many a_bits a_rows a_table a_row thrown used rooted size outSize points takenOut great at_ fault open_ wrong by_ sort variable_ pointCount kind left_ right_ many bits rows table row) → va_S (va_A ws0 sz) s.heap H locs → lv_has ls 7 [(0, .ref a0), (1, .int y1), (2, .long y2), (5, .int y5)] → W p l e rm_X7_atom s m args below meth c H locs 0 0 (MQ below (gQ D sz ws0 (ws_X7_atom cI cJ cB a0 a_roots a_moved a_text a_out a_above a_below a_sum a_point a_pointRows a_pointSorts a_kind a_left a_right a_many a_bits a_rows a_table a_row thrown z.2.1 rooted size outSize points takenOut z.2.2.1 at_ fault open_ wrong by_ sort variable_ pointCount z.2.2.2.1 z.2.2.2.2.1 z.2.2.2.2.2.1 z.2.2.2.2.2.2.1 z.2.2.2.2.2.2.2.1 z.2.2.2.2.2.2.2.2.1 z.2.2.2.2.2.2.2.2.2.1 z.2.2.2.2.2.2.2.2.2.2) (some (.int z.1))) args s 0 0 (va_A ws0 sz)) (F0 m 58 ls [.int s0]) := by
  obtain ⟨F, hr, hlk, hNw⟩ := id CX
  have hx := F.1
  have hb := F.2.1
  have hown := F.2.2.2.1
  have hA : ∀ q, s.heap.size ≤ q → va_A ws0 sz q := fun q hq => Or.inr (hsz ▸ hq)
  intro used great kind left_ right_ many bits rows table row y1 y2 y5 s0 H locs ls h hP hD hS hl
  unfold f_X7_atom_58 at h
  refine lv_istore (lv' := [(4, .int s0), (0, .ref a0), (1, .int y1), (2, .long y2), (5, .int y5)]) hx hb dX7_atom_58 hl (by decide) rfl (fun ls hl => ?_)
  refine lv_iinc (v := y5 + 1) (lv' := [(5, .int (y5 + 1)), (4, .int s0), (0, .ref a0), (1, .int y1), (2, .long y2)]) hx hb dX7_atom_60 hl (k := 4) rfl rfl (by decide) rfl (fun ls hl => ?_)
  refine lv_goto (tgt := 8) hx hb dX7_atom_63 (by decide) ?_
  exact hK8 used great kind left_ right_ many bits rows table row y1 y2 s0 (y5 + 1) _ _ _ h hP hD hS (lv_sub hl [2, 3, 4, 1, 0] rfl)
set_option maxHeartbeats 4000000 in
set_option maxRecDepth 100000 in
theorem w_X7_atom_56 (CX : Cx p m c cX7_atom 7 s args x0 RX7 meth (some .int)) (hK : va_K D vwCl (ty0 cI cJ cB) s) (hsz : s.heap.size = sz) {K8 : Int32 → Int32 → (Nat → Int32) → (Nat → Int32) → (Nat → Int32) → (Nat → Int32) → (Nat → Int32) → (Nat → Int32) → (Nat → Int32) → (Nat → Int64) → Int32 → Int64 → Int32 → Int32 → Option (Int32 × (Int32) × (Int32) × (Nat → Int32) × (Nat → Int32) × (Nat → Int32) × (Nat → Int32) × (Nat → Int32) × (Nat → Int32) × (Nat → Int32) × (Nat → Int64))} (hK8 : ∀ (used : Int32) (great : Int32) (kind : Nat → Int32) (left_ : Nat → Int32) (right_ : Nat → Int32) (many : Nat → Int32) (bits : Nat → Int32) (rows : Nat → Int32) (table : Nat → Int32) (row : Nat → Int64) (y1 : Int32) (y2 : Int64) (y4 : Int32) (y5 : Int32) (H : Heap) (locs : List Loc) (ls : Array Slot), K8 used great kind left_ right_ many bits rows table row y1 y2 y4 y5 = some z → va_P D vwCl (ws_X7_atom cI cJ cB a0 a_roots a_moved a_text a_out a_above a_below a_sum a_point a_pointRows a_pointSorts a_kind a_left a_right a_many a_bits a_rows a_table a_row thrown used rooted size outSize points takenOut great at_ fault open_ wrong by_ sort variable_ pointCount kind left_ right_ many bits rows table row) H → va_D (va_A ws0 sz) (ws_X7_atom cI cJ cB a0 a_roots a_moved a_text a_out a_above a_below a_sum a_point a_pointRows a_pointSorts a_kind a_left a_right a_many a_bits a_rows a_table a_row thrown used rooted size outSize points takenOut great at_ fault open_ wrong by_ sort variable_ pointCount kind left_ right_ many bits rows table row) → va_S (va_A ws0 sz) s.heap H locs → lv_has ls 7 [(0, .ref a0), (1, .int y1), (2, .long y2), (4, .int y4), (5, .int y5)] → W p l e rm_X7_atom s m args below meth c H locs 0 0 (MQ below (gQ D sz ws0 (ws_X7_atom cI cJ cB a0 a_roots a_moved a_text a_out a_above a_below a_sum a_point a_pointRows a_pointSorts a_kind a_left a_right a_many a_bits a_rows a_table a_row thrown z.2.1 rooted size outSize points takenOut z.2.2.1 at_ fault open_ wrong by_ sort variable_ pointCount z.2.2.2.1 z.2.2.2.2.1 z.2.2.2.2.2.1 z.2.2.2.2.2.2.1 z.2.2.2.2.2.2.2.1 z.2.2.2.2.2.2.2.2.1 z.2.2.2.2.2.2.2.2.2.1 z.2.2.2.2.2.2.2.2.2.2) (some (.int z.1))) args s 0 0 (va_A ws0 sz)) (F0 m 8 ls [])) : ∀ (used : Int32) (great : Int32) (kind : Nat → Int32) (left_ : Nat → Int32) (right_ : Nat → Int32) (many : Nat → Int32) (bits : Nat → Int32) (rows : Nat → Int32) (table : Nat → Int32) (row : Nat → Int64) (y1 : Int32) (y2 : Int64) (y4 : Int32) (y5 : Int32) (H : Heap) (locs : List Loc) (ls : Array Slot), f_X7_atom_56 K8 N used great kind left_ right_ many bits rows table row y1 y2 y4 y5 = some z → va_P D vwCl (ws_X7_atom cI cJ cB a0 a_roots a_moved a_text a_out a_above a_below a_sum a_point a_pointRows a_pointSorts a_kind a_left a_right a_many a_bits a_rows a_table a_row thrown used rooted size outSize points takenOut great at_ fault open_ wrong by_ sort variable_ pointCount kind left_ right_ many bits rows table row) H → va_D (va_A ws0 sz) (ws_X7_atom cI cJ cB a0 a_roots a_moved a_text a_out a_above a_below a_sum a_point a_pointRows a_pointSorts a_kind a_left a_right a_many a_bits a_rows a_table a_row thrown used rooted size outSize points takenOut great at_ fault open_ wrong by_ sort variable_ pointCount kind left_ right_ many bits rows table row) → va_S (va_A ws0 sz) s.heap H locs → lv_has ls 7 [(0, .ref a0), (1, .int y1), (2, .long y2), (4, .int y4), (5, .int y5)] → W p l e rm_X7_atom s m args below meth c H locs 0 0 (MQ below (gQ D sz ws0 (ws_X7_atom cI cJ cB a0 a_roots a_moved a_text a_out a_above a_below a_sum a_point a_pointRows a_pointSorts a_kind a_left a_right a_many a_bits a_rows a_table a_row thrown z.2.1 rooted size outSize points takenOut z.2.2.1 at_ fault open_ wrong by_ sort variable_ pointCount z.2.2.2.1 z.2.2.2.2.1 z.2.2.2.2.2.1 z.2.2.2.2.2.2.1 z.2.2.2.2.2.2.2.1 z.2.2.2.2.2.2.2.2.1 z.2.2.2.2.2.2.2.2.2.1 z.2.2.2.2.2.2.2.2.2.2) (some (.int z.1))) args s 0 0 (va_A ws0 sz)) (F0 m 56 ls []) := by
  obtain ⟨F, hr, hlk, hNw⟩ := id CX
  have hx := F.1
  have hb := F.2.1
  have hown := F.2.2.2.1
  have hA : ∀ q, s.heap.size ≤ q → va_A ws0 sz q := fun q hq => Or.inr (hsz ▸ hq)
  intro used great kind left_ right_ many bits rows table row y1 y2 y4 y5 H locs ls h hP hD hS hl
  unfold f_X7_atom_56 at h
  refine lv_iload hx hb dX7_atom_56 (lv_at hl 3 rfl) ?_
  exact w_X7_atom_58 CX hK hsz (hK8 := hK8) used great kind left_ right_ many bits rows table row y1 y2 y5 y4 _ _ _ h hP hD hS (lv_sub hl [0, 1, 2, 4] rfl)
set_option maxHeartbeats 4000000 in
set_option maxRecDepth 100000 in
theorem w_X7_atom_152 (CX : Cx p m c cX7_atom 7 s args x0 RX7 meth (some .int)) (hK : va_K D vwCl (ty0 cI cJ cB) s) (hsz : s.heap.size = sz) : ∀ (used : Int32) (great : Int32) (kind : Nat → Int32) (left_ : Nat → Int32) (right_ : Nat → Int32) (many : Nat → Int32) (bits : Nat → Int32) (rows : Nat → Int32) (table : Nat → Int32) (row : Nat → Int64) (s1 : Int32) (H : Heap) (locs : List Loc) (ls : Array Slot), f_X7_atom_152 N used great kind left_ right_ many bits rows table row s1 = some z → va_P D vwCl (ws_X7_atom cI cJ cB a0 a_roots a_moved a_text a_out a_above a_below a_sum a_point a_pointRows a_pointSorts a_kind a_left a_right a_many a_bits a_rows a_table a_row thrown used rooted size outSize points takenOut great at_ fault open_ wrong by_ sort variable_ pointCount kind left_ right_ many bits rows table row) H → va_D (va_A ws0 sz) (ws_X7_atom cI cJ cB a0 a_roots a_moved a_text a_out a_above a_below a_sum a_point a_pointRows a_pointSorts a_kind a_left a_right a_many a_bits a_rows a_table a_row thrown used rooted size outSize points takenOut great at_ fault open_ wrong by_ sort variable_ pointCount kind left_ right_ many bits rows table row) → va_S (va_A ws0 sz) s.heap H locs → lv_has ls 7 [] → W p l e rm_X7_atom s m args below meth c H locs 0 0 (MQ below (gQ D sz ws0 (ws_X7_atom cI cJ cB a0 a_roots a_moved a_text a_out a_above a_below a_sum a_point a_pointRows a_pointSorts a_kind a_left a_right a_many a_bits a_rows a_table a_row thrown z.2.1 rooted size outSize points takenOut z.2.2.1 at_ fault open_ wrong by_ sort variable_ pointCount z.2.2.2.1 z.2.2.2.2.1 z.2.2.2.2.2.1 z.2.2.2.2.2.2.1 z.2.2.2.2.2.2.2.1 z.2.2.2.2.2.2.2.2.1 z.2.2.2.2.2.2.2.2.2.1 z.2.2.2.2.2.2.2.2.2.2) (some (.int z.1))) args s 0 0 (va_A ws0 sz)) (F0 m 152 ls [.int s1, .ref a0]) := by
  obtain ⟨F, hr, hlk, hNw⟩ := id CX
  have hx := F.1
  have hb := F.2.1
  have hown := F.2.2.2.1
  have hA : ∀ q, s.heap.size ≤ q → va_A ws0 sz q := fun q hq => Or.inr (hsz ▸ hq)
  intro used great kind left_ right_ many bits rows table row s1 H locs ls h hP hD hS hl
  unfold f_X7_atom_152 at h
  obtain ⟨z152, hz152, h⟩ := o_b h
  refine k_v (wn := (ws_X7_atom cI cJ cB a0 a_roots a_moved a_text a_out a_above a_below a_sum a_point a_pointRows a_pointSorts a_kind a_left a_right a_many a_bits a_rows a_table a_row thrown used rooted size outSize points takenOut great at_ fault open_ wrong by_ sort variable_ pointCount kind left_ right_ many bits rows table row)) (As := [.int s1]) (rest := []) F hNw hK hP hD hS hA (c_X7_truth l D cI cJ cB a0 a_kind a_left a_right a_many a_bits a_rows a_table a_roots a_moved a_text a_out a_above a_below a_row a_sum a_point a_pointRows a_pointSorts _ thrown used rooted size outSize points takenOut great at_ fault open_ wrong by_ sort variable_ pointCount s1 N hz152) wm_1227 cv_X7_truth [0] [1, 2, 3, 4, 5, 6, 7, 8] [8, 0, 1, 2, 3, 4, 5, 6, 7] (⟨rfl, rfl, rfl, by decide, rfl⟩ : Ix [0] [1, 2, 3, 4, 5, 6, 7, 8] [8, 0, 1, 2, 3, 4, 5, 6, 7] 9) rfl (hN_of 8 9 (by decide +kernel) rfl (by decide +kernel) rfl) rfl rfl rfl rfl ⟨rfl, rfl, by decide, by decide⟩ hl.1 rfl (Nat.le_of_ble_eq_true rfl) ⟨Nat.zero_le _, Nat.zero_le _⟩ dX7_atom_152 (fun H locs hP hD hS => ?_)
  obtain rfl := Option.some.inj h
  exact r_ret (v := z152) F hr hlk rfl dX7_atom_155 hsz hP hD hS
set_option maxHeartbeats 4000000 in
set_option maxRecDepth 100000 in
theorem w_X7_atom_238 (CX : Cx p m c cX7_atom 7 s args x0 RX7 meth (some .int)) (hK : va_K D vwCl (ty0 cI cJ cB) s) (hsz : s.heap.size = sz) {K179 : Int32 → Int32 → (Nat → Int32) → (Nat → Int32) → (Nat → Int32) → (Nat → Int32) → (Nat → Int32) → (Nat → Int32) → (Nat → Int32) → (Nat → Int64) → Int32 → Int64 → Int32 → Option (Int32 × (Int32) × (Int32) × (Nat → Int32) × (Nat → Int32) × (Nat → Int32) × (Nat → Int32) × (Nat → Int32) × (Nat → Int32) × (Nat → Int32) × (Nat → Int64))} (hK179 : ∀ (used : Int32) (great : Int32) (kind : Nat → Int32) (left_ : Nat → Int32) (right_ : Nat → Int32) (many : Nat → Int32) (bits : Nat → Int32) (rows : Nat → Int32) (table : Nat → Int32) (row : Nat → Int64) (y1 : Int32) (y2 : Int64) (y5 : Int32) (H : Heap) (locs : List Loc) (ls : Array Slot), K179 used great kind left_ right_ many bits rows table row y1 y2 y5 = some z → va_P D vwCl (ws_X7_atom cI cJ cB a0 a_roots a_moved a_text a_out a_above a_below a_sum a_point a_pointRows a_pointSorts a_kind a_left a_right a_many a_bits a_rows a_table a_row thrown used rooted size outSize points takenOut great at_ fault open_ wrong by_ sort variable_ pointCount kind left_ right_ many bits rows table row) H → va_D (va_A ws0 sz) (ws_X7_atom cI cJ cB a0 a_roots a_moved a_text a_out a_above a_below a_sum a_point a_pointRows a_pointSorts a_kind a_left a_right a_many a_bits a_rows a_table a_row thrown used rooted size outSize points takenOut great at_ fault open_ wrong by_ sort variable_ pointCount kind left_ right_ many bits rows table row) → va_S (va_A ws0 sz) s.heap H locs → lv_has ls 7 [(0, .ref a0), (1, .int y1), (2, .long y2), (5, .int y5)] → W p l e rm_X7_atom s m args below meth c H locs 0 0 (MQ below (gQ D sz ws0 (ws_X7_atom cI cJ cB a0 a_roots a_moved a_text a_out a_above a_below a_sum a_point a_pointRows a_pointSorts a_kind a_left a_right a_many a_bits a_rows a_table a_row thrown z.2.1 rooted size outSize points takenOut z.2.2.1 at_ fault open_ wrong by_ sort variable_ pointCount z.2.2.2.1 z.2.2.2.2.1 z.2.2.2.2.2.1 z.2.2.2.2.2.2.1 z.2.2.2.2.2.2.2.1 z.2.2.2.2.2.2.2.2.1 z.2.2.2.2.2.2.2.2.2.1 z.2.2.2.2.2.2.2.2.2.2) (some (.int z.1))) args s 0 0 (va_A ws0 sz)) (F0 m 179 ls [])) : ∀ (used : Int32) (great : Int32) (kind : Nat → Int32) (left_ : Nat → Int32) (right_ : Nat → Int32) (many : Nat → Int32) (bits : Nat → Int32) (rows : Nat → Int32) (table : Nat → Int32) (row : Nat → Int64) (y1 : Int32) (y2 : Int64) (y5 : Int32) (s1 : Int32) (H : Heap) (locs : List Loc) (ls : Array Slot), f_X7_atom_238 K179 N used great kind left_ right_ many bits rows table row y1 y2 y5 s1 = some z → va_P D vwCl (ws_X7_atom cI cJ cB a0 a_roots a_moved a_text a_out a_above a_below a_sum a_point a_pointRows a_pointSorts a_kind a_left a_right a_many a_bits a_rows a_table a_row thrown used rooted size outSize points takenOut great at_ fault open_ wrong by_ sort variable_ pointCount kind left_ right_ many bits rows table row) H → va_D (va_A ws0 sz) (ws_X7_atom cI cJ cB a0 a_roots a_moved a_text a_out a_above a_below a_sum a_point a_pointRows a_pointSorts a_kind a_left a_right a_many a_bits a_rows a_table a_row thrown used rooted size outSize points takenOut great at_ fault open_ wrong by_ sort variable_ pointCount kind left_ right_ many bits rows table row) → va_S (va_A ws0 sz) s.heap H locs → lv_has ls 7 [(0, .ref a0), (1, .int y1), (2, .long y2), (5, .int y5)] → W p l e rm_X7_atom s m args below meth c H locs 0 0 (MQ below (gQ D sz ws0 (ws_X7_atom cI cJ cB a0 a_roots a_moved a_text a_out a_above a_below a_sum a_point a_pointRows a_pointSorts a_kind a_left a_right a_many a_bits a_rows a_table a_row thrown z.2.1 rooted size outSize points takenOut z.2.2.1 at_ fault open_ wrong by_ sort variable_ pointCount z.2.2.2.1 z.2.2.2.2.1 z.2.2.2.2.2.1 z.2.2.2.2.2.2.1 z.2.2.2.2.2.2.2.1 z.2.2.2.2.2.2.2.2.1 z.2.2.2.2.2.2.2.2.2.1 z.2.2.2.2.2.2.2.2.2.2) (some (.int z.1))) args s 0 0 (va_A ws0 sz)) (F0 m 238 ls [.int s1, .ref a0]) := by
  obtain ⟨F, hr, hlk, hNw⟩ := id CX
  have hx := F.1
  have hb := F.2.1
  have hown := F.2.2.2.1
  have hA : ∀ q, s.heap.size ≤ q → va_A ws0 sz q := fun q hq => Or.inr (hsz ▸ hq)
  intro used great kind left_ right_ many bits rows table row y1 y2 y5 s1 H locs ls h hP hD hS hl
  unfold f_X7_atom_238 at h
  obtain ⟨hc238, h⟩ := o_c h
  refine r_put (wn := (ws_X7_atom cI cJ cB a0 a_roots a_moved a_text a_out a_above a_below a_sum a_point a_pointRows a_pointSorts a_kind a_left a_right a_many a_bits a_rows a_table a_row thrown used rooted size outSize points takenOut s1 at_ fault open_ wrong by_ sort variable_ pointCount kind left_ right_ many bits rows table row)) F hK hP hD hS 0 20 rfl inW_X7 wm_1112 tyX7_ok nmX7 rfl rfl (by decide) (nb01 hc238) (fb01 hc238) (Nat.le_of_ble_eq_true rfl) rfl dX7_atom_238 (fun H locs hP hD hS => ?_)
  refine lv_iinc (v := y5 + 1) (lv' := [(5, .int (y5 + 1)), (0, .ref a0), (1, .int y1), (2, .long y2)]) hx hb dX7_atom_241 hl (k := 3) rfl rfl (by decide) rfl (fun ls hl => ?_)
  refine lv_goto (tgt := 179) hx hb dX7_atom_244 (by decide) ?_
  exact hK179 used s1 kind left_ right_ many bits rows table row y1 y2 (y5 + 1) _ _ _ h hP hD hS (lv_sub hl [1, 2, 3, 0] rfl)
set_option maxHeartbeats 4000000 in
set_option maxRecDepth 100000 in
theorem w_X7_atom_233 (CX : Cx p m c cX7_atom 7 s args x0 RX7 meth (some .int)) (hK : va_K D vwCl (ty0 cI cJ cB) s) (hsz : s.heap.size = sz) {K179 : Int32 → Int32 → (Nat → Int32) → (Nat → Int32) → (Nat → Int32) → (Nat → Int32) → (Nat → Int32) → (Nat → Int32) → (Nat → Int32) → (Nat → Int64) → Int32 → Int64 → Int32 → Option (Int32 × (Int32) × (Int32) × (Nat → Int32) × (Nat → Int32) × (Nat → Int32) × (Nat → Int32) × (Nat → Int32) × (Nat → Int32) × (Nat → Int32) × (Nat → Int64))} (hK179 : ∀ (used : Int32) (great : Int32) (kind : Nat → Int32) (left_ : Nat → Int32) (right_ : Nat → Int32) (many : Nat → Int32) (bits : Nat → Int32) (rows : Nat → Int32) (table : Nat → Int32) (row : Nat → Int64) (y1 : Int32) (y2 : Int64) (y5 : Int32) (H : Heap) (locs : List Loc) (ls : Array Slot), K179 used great kind left_ right_ many bits rows table row y1 y2 y5 = some z → va_P D vwCl (ws_X7_atom cI cJ cB a0 a_roots a_moved a_text a_out a_above a_below a_sum a_point a_pointRows a_pointSorts a_kind a_left a_right a_many a_bits a_rows a_table a_row thrown used rooted size outSize points takenOut great at_ fault open_ wrong by_ sort variable_ pointCount kind left_ right_ many bits rows table row) H → va_D (va_A ws0 sz) (ws_X7_atom cI cJ cB a0 a_roots a_moved a_text a_out a_above a_below a_sum a_point a_pointRows a_pointSorts a_kind a_left a_right a_many a_bits a_rows a_table a_row thrown used rooted size outSize points takenOut great at_ fault open_ wrong by_ sort variable_ pointCount kind left_ right_ many bits rows table row) → va_S (va_A ws0 sz) s.heap H locs → lv_has ls 7 [(0, .ref a0), (1, .int y1), (2, .long y2), (5, .int y5)] → W p l e rm_X7_atom s m args below meth c H locs 0 0 (MQ below (gQ D sz ws0 (ws_X7_atom cI cJ cB a0 a_roots a_moved a_text a_out a_above a_below a_sum a_point a_pointRows a_pointSorts a_kind a_left a_right a_many a_bits a_rows a_table a_row thrown z.2.1 rooted size outSize points takenOut z.2.2.1 at_ fault open_ wrong by_ sort variable_ pointCount z.2.2.2.1 z.2.2.2.2.1 z.2.2.2.2.2.1 z.2.2.2.2.2.2.1 z.2.2.2.2.2.2.2.1 z.2.2.2.2.2.2.2.2.1 z.2.2.2.2.2.2.2.2.2.1 z.2.2.2.2.2.2.2.2.2.2) (some (.int z.1))) args s 0 0 (va_A ws0 sz)) (F0 m 179 ls [])) : ∀ (used : Int32) (great : Int32) (kind : Nat → Int32) (left_ : Nat → Int32) (right_ : Nat → Int32) (many : Nat → Int32) (bits : Nat → Int32) (rows : Nat → Int32) (table : Nat → Int32) (row : Nat → Int64) (y1 : Int32) (y2 : Int64) (y5 : Int32) (H : Heap) (locs : List Loc) (ls : Array Slot), f_X7_atom_233 K179 N used great kind left_ right_ many bits rows table row y1 y2 y5 = some z → va_P D vwCl (ws_X7_atom cI cJ cB a0 a_roots a_moved a_text a_out a_above a_below a_sum a_point a_pointRows a_pointSorts a_kind a_left a_right a_many a_bits a_rows a_table a_row thrown used rooted size outSize points takenOut great at_ fault open_ wrong by_ sort variable_ pointCount kind left_ right_ many bits rows table row) H → va_D (va_A ws0 sz) (ws_X7_atom cI cJ cB a0 a_roots a_moved a_text a_out a_above a_below a_sum a_point a_pointRows a_pointSorts a_kind a_left a_right a_many a_bits a_rows a_table a_row thrown used rooted size outSize points takenOut great at_ fault open_ wrong by_ sort variable_ pointCount kind left_ right_ many bits rows table row) → va_S (va_A ws0 sz) s.heap H locs → lv_has ls 7 [(0, .ref a0), (1, .int y1), (2, .long y2), (5, .int y5)] → W p l e rm_X7_atom s m args below meth c H locs 0 0 (MQ below (gQ D sz ws0 (ws_X7_atom cI cJ cB a0 a_roots a_moved a_text a_out a_above a_below a_sum a_point a_pointRows a_pointSorts a_kind a_left a_right a_many a_bits a_rows a_table a_row thrown z.2.1 rooted size outSize points takenOut z.2.2.1 at_ fault open_ wrong by_ sort variable_ pointCount z.2.2.2.1 z.2.2.2.2.1 z.2.2.2.2.2.1 z.2.2.2.2.2.2.1 z.2.2.2.2.2.2.2.1 z.2.2.2.2.2.2.2.2.1 z.2.2.2.2.2.2.2.2.2.1 z.2.2.2.2.2.2.2.2.2.2) (some (.int z.1))) args s 0 0 (va_A ws0 sz)) (F0 m 233 ls [.ref a0]) := by
  obtain ⟨F, hr, hlk, hNw⟩ := id CX
  have hx := F.1
  have hb := F.2.1
  have hown := F.2.2.2.1
  have hA : ∀ q, s.heap.size ≤ q → va_A ws0 sz q := fun q hq => Or.inr (hsz ▸ hq)
  intro used great kind left_ right_ many bits rows table row y1 y2 y5 H locs ls h hP hD hS hl
  unfold f_X7_atom_233 at h
  refine lv_iconst (v := 1) hx hb dX7_atom_233 (by decide) ?_
  refine lv_goto (tgt := 238) hx hb dX7_atom_234 (by decide) ?_
  exact w_X7_atom_238 CX hK hsz (hK179 := hK179) used great kind left_ right_ many bits rows table row y1 y2 y5 1 _ _ _ h hP hD hS (lv_sub hl [0, 1, 2, 3] rfl)
set_option maxHeartbeats 4000000 in
set_option maxRecDepth 100000 in
theorem w_X7_atom_265 (CX : Cx p m c cX7_atom 7 s args x0 RX7 meth (some .int)) (hK : va_K D vwCl (ty0 cI cJ cB) s) (hsz : s.heap.size = sz) : ∀ (used : Int32) (great : Int32) (kind : Nat → Int32) (left_ : Nat → Int32) (right_ : Nat → Int32) (many : Nat → Int32) (bits : Nat → Int32) (rows : Nat → Int32) (table : Nat → Int32) (row : Nat → Int64) (s0 : Int32) (H : Heap) (locs : List Loc) (ls : Array Slot), f_X7_atom_265 N used great kind left_ right_ many bits rows table row s0 = some z → va_P D vwCl (ws_X7_atom cI cJ cB a0 a_roots a_moved a_text a_out a_above a_below a_sum a_point a_pointRows a_pointSorts a_kind a_left a_right a_many a_bits a_rows a_table a_row thrown used rooted size outSize points takenOut great at_ fault open_ wrong by_ sort variable_ pointCount kind left_ right_ many bits rows table row) H → va_D (va_A ws0 sz) (ws_X7_atom cI cJ cB a0 a_roots a_moved a_text a_out a_above a_below a_sum a_point a_pointRows a_pointSorts a_kind a_left a_right a_many a_bits a_rows a_table a_row thrown used rooted size outSize points takenOut great at_ fault open_ wrong by_ sort variable_ pointCount kind left_ right_ many bits rows table row) → va_S (va_A ws0 sz) s.heap H locs → lv_has ls 7 [] → W p l e rm_X7_atom s m args below meth c H locs 0 0 (MQ below (gQ D sz ws0 (ws_X7_atom cI cJ cB a0 a_roots a_moved a_text a_out a_above a_below a_sum a_point a_pointRows a_pointSorts a_kind a_left a_right a_many a_bits a_rows a_table a_row thrown z.2.1 rooted size outSize points takenOut z.2.2.1 at_ fault open_ wrong by_ sort variable_ pointCount z.2.2.2.1 z.2.2.2.2.1 z.2.2.2.2.2.1 z.2.2.2.2.2.2.1 z.2.2.2.2.2.2.2.1 z.2.2.2.2.2.2.2.2.1 z.2.2.2.2.2.2.2.2.2.1 z.2.2.2.2.2.2.2.2.2.2) (some (.int z.1))) args s 0 0 (va_A ws0 sz)) (F0 m 265 ls [.int s0]) := by
  obtain ⟨F, hr, hlk, hNw⟩ := id CX
  have hx := F.1
  have hb := F.2.1
  have hown := F.2.2.2.1
  have hA : ∀ q, s.heap.size ≤ q → va_A ws0 sz q := fun q hq => Or.inr (hsz ▸ hq)
  intro used great kind left_ right_ many bits rows table row s0 H locs ls h hP hD hS hl
  unfold f_X7_atom_265 at h
  obtain rfl := Option.some.inj h
  exact r_ret (v := s0) F hr hlk rfl dX7_atom_265 hsz hP hD hS
set_option maxHeartbeats 4000000 in
set_option maxRecDepth 100000 in
theorem w_X7_atom_179 (CX : Cx p m c cX7_atom 7 s args x0 RX7 meth (some .int)) (hK : va_K D vwCl (ty0 cI cJ cB) s) (hsz : s.heap.size = sz) : ∀ (n : Nat), ∀ (used : Int32) (great : Int32) (kind : Nat → Int32) (left_ : Nat → Int32) (right_ : Nat → Int32) (many : Nat → Int32) (bits : Nat → Int32) (rows : Nat → Int32) (table : Nat → Int32) (row : Nat → Int64) (y1 : Int32) (y2 : Int64) (y5 : Int32) (H : Heap) (locs : List Loc) (ls : Array Slot), f_X7_atom_179 N n used great kind left_ right_ many bits rows table row y1 y2 y5 = some z → va_P D vwCl (ws_X7_atom cI cJ cB a0 a_roots a_moved a_text a_out a_above a_below a_sum a_point a_pointRows a_pointSorts a_kind a_left a_right a_many a_bits a_rows a_table a_row thrown used rooted size outSize points takenOut great at_ fault open_ wrong by_ sort variable_ pointCount kind left_ right_ many bits rows table row) H → va_D (va_A ws0 sz) (ws_X7_atom cI cJ cB a0 a_roots a_moved a_text a_out a_above a_below a_sum a_point a_pointRows a_pointSorts a_kind a_left a_right a_many a_bits a_rows a_table a_row thrown used rooted size outSize points takenOut great at_ fault open_ wrong by_ sort variable_ pointCount kind left_ right_ many bits rows table row) → va_S (va_A ws0 sz) s.heap H locs → lv_has ls 7 [(0, .ref a0), (1, .int y1), (2, .long y2), (5, .int y5)] → W p l e rm_X7_atom s m args below meth c H locs 0 0 (MQ below (gQ D sz ws0 (ws_X7_atom cI cJ cB a0 a_roots a_moved a_text a_out a_above a_below a_sum a_point a_pointRows a_pointSorts a_kind a_left a_right a_many a_bits a_rows a_table a_row thrown z.2.1 rooted size outSize points takenOut z.2.2.1 at_ fault open_ wrong by_ sort variable_ pointCount z.2.2.2.1 z.2.2.2.2.1 z.2.2.2.2.2.1 z.2.2.2.2.2.2.1 z.2.2.2.2.2.2.2.1 z.2.2.2.2.2.2.2.2.1 z.2.2.2.2.2.2.2.2.2.1 z.2.2.2.2.2.2.2.2.2.2) (some (.int z.1))) args s 0 0 (va_A ws0 sz)) (F0 m 179 ls []) := by
  obtain ⟨F, hr, hlk, hNw⟩ := id CX
  have hx := F.1
  have hb := F.2.1
  have hown := F.2.2.2.1
  have hA : ∀ q, s.heap.size ≤ q → va_A ws0 sz q := fun q hq => Or.inr (hsz ▸ hq)
  intro n
  induction n with
  | zero =>
    intro used great kind left_ right_ many bits rows table row y1 y2 y5 H locs ls h
    cases h
  | succ n ih =>
    intro used great kind left_ right_ many bits rows table row y1 y2 y5 H locs ls h hP hD hS hl
    unfold f_X7_atom_179 at h
    refine lv_iload hx hb dX7_atom_179 (lv_at hl 3 rfl) ?_
    refine lv_bipush (v := 9) hx hb dX7_atom_181 (by decide) ?_
    refine lv_icmp_ge (tgt := 247) hx hb dX7_atom_183 (by decide) (fun c183 => ?_) (fun c183 => ?_)
    · have h := o_t c183 h
      refine lv_aload_n hx hb dX7_atom_247 rfl (lv_at hl 0 rfl) ?_
      refine r_get F hK hP 0 20 rfl inW_X7 wm_1112 rfl (by decide) rfl dX7_atom_248 ?_
      refine lv_if_eq (tgt := 258) hx hb dX7_atom_251 (by decide) (fun c251 => ?_) (fun c251 => ?_)
      · have h := o_t c251 h
        refine lv_aload_n hx hb dX7_atom_258 rfl (lv_at hl 0 rfl) ?_
        refine lv_iconst (v := 2) hx hb dX7_atom_259 (by decide) ?_
        refine lv_iload_n hx hb dX7_atom_260 rfl (lv_at hl 1 rfl) ?_
        refine lv_iconst (v := 0) hx hb dX7_atom_261 (by decide) ?_
        obtain ⟨z262, hz262, h⟩ := o_b h
        refine k_v (wn := (ws_X7_atom cI cJ cB a0 a_roots a_moved a_text a_out a_above a_below a_sum a_point a_pointRows a_pointSorts a_kind a_left a_right a_many a_bits a_rows a_table a_row thrown z262.2.1 rooted size outSize points takenOut great at_ fault open_ wrong by_ sort variable_ pointCount z262.2.2.1 z262.2.2.2.1 z262.2.2.2.2.1 z262.2.2.2.2.2.1 z262.2.2.2.2.2.2.1 z262.2.2.2.2.2.2.2.1 z262.2.2.2.2.2.2.2.2 row)) (As := [.int 2, .int y1, .int 0]) (rest := []) F hNw hK hP hD hS hA (c_X7_place l D cI cJ cB a0 a_roots a_moved a_text a_out a_above a_below a_sum a_point a_pointRows a_pointSorts a_kind a_left a_right a_many a_bits a_rows a_table a_row _ thrown used rooted size outSize points takenOut great at_ fault open_ wrong by_ sort variable_ pointCount kind left_ right_ many bits rows table row 2 y1 0 N hz262) wm_1082 cv_X7_place [0, 1, 2, 3, 4, 5, 6, 7, 8] [] [0, 1, 2, 3, 4, 5, 6, 7, 8] (⟨rfl, rfl, rfl, by decide, rfl⟩ : Ix [0, 1, 2, 3, 4, 5, 6, 7, 8] [] [0, 1, 2, 3, 4, 5, 6, 7, 8] 9) rfl (hN_of 0 9 (by decide +kernel) rfl (by decide +kernel) rfl) rfl rfl rfl rfl ⟨rfl, rfl, by decide, by decide⟩ hl.1 rfl (Nat.le_of_ble_eq_true rfl) ⟨Nat.zero_le _, Nat.zero_le _⟩ dX7_atom_262 (fun H locs hP hD hS => ?_)
        exact w_X7_atom_265 CX hK hsz z262.2.1 great z262.2.2.1 z262.2.2.2.1 z262.2.2.2.2.1 z262.2.2.2.2.2.1 z262.2.2.2.2.2.2.1 z262.2.2.2.2.2.2.2.1 z262.2.2.2.2.2.2.2.2 row z262.1 _ _ _ h hP hD hS (lv_sub hl [] rfl)
      · have h := o_f c251 h
        refine lv_iconst (v := 0) hx hb dX7_atom_254 (by decide) ?_
        refine lv_goto (tgt := 265) hx hb dX7_atom_255 (by decide) ?_
        exact w_X7_atom_265 CX hK hsz used great kind left_ right_ many bits rows table row 0 _ _ _ h hP hD hS (lv_sub hl [] rfl)
    · have h := o_f c183 h
      refine lv_aload_n hx hb dX7_atom_186 rfl (lv_at hl 0 rfl) ?_
      refine r_get F hK hP 0 21 rfl inW_X7 wm_1113 rfl (by decide) rfl dX7_atom_187 ?_
      refine lv_iload hx hb dX7_atom_190 (lv_at hl 3 rfl) ?_
      refine lv_dup2_11 hx hb dX7_atom_192 rfl rfl ?_
      obtain ⟨hi193, h⟩ := o_ix h
      refine va_lald hx hb hK hP 8 1 rfl rfl hi193 dX7_atom_193 ?_
      refine lv_lload_n hx hb dX7_atom_194 rfl (lv_at hl 2 rfl) ?_
      obtain ⟨hc195, h⟩ := o_c h
      refine lv_ldiv hx hb dX7_atom_195 hc195 ?_
      obtain ⟨hi196, h⟩ := o_ix h
      refine r_last (wn := (ws_X7_atom cI cJ cB a0 a_roots a_moved a_text a_out a_above a_below a_sum a_point a_pointRows a_pointSorts a_kind a_left a_right a_many a_bits a_rows a_table a_row thrown used rooted size outSize points takenOut great at_ fault open_ wrong by_ sort variable_ pointCount kind left_ right_ many bits rows table (vp_updL row y5.toNatClampNeg ((row y5.toNatClampNeg) / y2)))) F hK hP hD hS 8 1 hi196 rfl rfl rfl dX7_atom_196 (fun H locs hP hD hS => ?_)
      refine lv_aload_n hx hb dX7_atom_197 rfl (lv_at hl 0 rfl) ?_
      refine lv_aload_n hx hb dX7_atom_198 rfl (lv_at hl 0 rfl) ?_
      refine r_get F hK hP 0 20 rfl inW_X7 wm_1112 rfl (by decide) rfl dX7_atom_199 ?_
      refine lv_if_ne (tgt := 233) hx hb dX7_atom_202 (by decide) (fun c202 => ?_) (fun c202 => ?_)
      · have h := o_f c202 h
        exact w_X7_atom_233 CX hK hsz (hK179 := ih) used great kind left_ right_ many bits rows table (vp_updL row y5.toNatClampNeg ((row y5.toNatClampNeg) / y2)) y1 y2 y5 _ _ _ h hP hD hS (lv_sub hl [0, 1, 2, 3] rfl)
      · have h := o_t c202 h
        refine lv_aload_n hx hb dX7_atom_205 rfl (lv_at hl 0 rfl) ?_
        refine r_get F hK hP 0 21 rfl inW_X7 wm_1113 rfl (by decide) rfl dX7_atom_206 ?_
        refine lv_iload hx hb dX7_atom_209 (lv_at hl 3 rfl) ?_
        obtain ⟨hi211, h⟩ := o_ix h
        refine va_lald hx hb hK hP 8 1 rfl rfl hi211 dX7_atom_211 ?_
        refine lv_ldc2 (v := 1000000000) hx hb hown (F.2.2.2.2 _ (q_in wm_1264)) dX7_atom_212 ?_
        refine W.lcmp hx hb dX7_atom_215 ?_
        refine lv_if_gt (tgt := 233) hx hb dX7_atom_216 (by decide) (fun c216 => ?_) (fun c216 => ?_)
        · have h := o_t c216 h
          exact w_X7_atom_233 CX hK hsz (hK179 := ih) used great kind left_ right_ many bits rows table (vp_updL row y5.toNatClampNeg ((row y5.toNatClampNeg) / y2)) y1 y2 y5 _ _ _ h hP hD hS (lv_sub hl [0, 1, 2, 3] rfl)
        · have h := o_f c216 h
          refine lv_aload_n hx hb dX7_atom_219 rfl (lv_at hl 0 rfl) ?_
          refine r_get F hK hP 0 21 rfl inW_X7 wm_1113 rfl (by decide) rfl dX7_atom_220 ?_
          refine lv_iload hx hb dX7_atom_223 (lv_at hl 3 rfl) ?_
          obtain ⟨hi225, h⟩ := o_ix h
          refine va_lald hx hb hK hP 8 1 rfl rfl hi225 dX7_atom_225 ?_
          refine lv_ldc2 (v := (-1000000000)) hx hb hown (F.2.2.2.2 _ (q_in wm_1265)) dX7_atom_226 ?_
          refine W.lcmp hx hb dX7_atom_229 ?_
          refine lv_if_ge (tgt := 237) hx hb dX7_atom_230 (by decide) (fun c230 => ?_) (fun c230 => ?_)
          · have h := o_t c230 h
            refine lv_iconst (v := 0) hx hb dX7_atom_237 (by decide) ?_
            exact w_X7_atom_238 CX hK hsz (hK179 := ih) used great kind left_ right_ many bits rows table (vp_updL row y5.toNatClampNeg ((row y5.toNatClampNeg) / y2)) y1 y2 y5 0 _ _ _ h hP hD hS (lv_sub hl [0, 1, 2, 3] rfl)
          · have h := o_f c230 h
            exact w_X7_atom_233 CX hK hsz (hK179 := ih) used great kind left_ right_ many bits rows table (vp_updL row y5.toNatClampNeg ((row y5.toNatClampNeg) / y2)) y1 y2 y5 _ _ _ h hP hD hS (lv_sub hl [0, 1, 2, 3] rfl)
set_option maxHeartbeats 4000000 in
set_option maxRecDepth 100000 in
theorem w_X7_atom_176 (CX : Cx p m c cX7_atom 7 s args x0 RX7 meth (some .int)) (hK : va_K D vwCl (ty0 cI cJ cB) s) (hsz : s.heap.size = sz) : ∀ (used : Int32) (great : Int32) (kind : Nat → Int32) (left_ : Nat → Int32) (right_ : Nat → Int32) (many : Nat → Int32) (bits : Nat → Int32) (rows : Nat → Int32) (table : Nat → Int32) (row : Nat → Int64) (y1 : Int32) (y2 : Int64) (H : Heap) (locs : List Loc) (ls : Array Slot), f_X7_atom_176 N used great kind left_ right_ many bits rows table row y1 y2 = some z → va_P D vwCl (ws_X7_atom cI cJ cB a0 a_roots a_moved a_text a_out a_above a_below a_sum a_point a_pointRows a_pointSorts a_kind a_left a_right a_many a_bits a_rows a_table a_row thrown used rooted size outSize points takenOut great at_ fault open_ wrong by_ sort variable_ pointCount kind left_ right_ many bits rows table row) H → va_D (va_A ws0 sz) (ws_X7_atom cI cJ cB a0 a_roots a_moved a_text a_out a_above a_below a_sum a_point a_pointRows a_pointSorts a_kind a_left a_right a_many a_bits a_rows a_table a_row thrown used rooted size outSize points takenOut great at_ fault open_ wrong by_ sort variable_ pointCount kind left_ right_ many bits rows table row) → va_S (va_A ws0 sz) s.heap H locs → lv_has ls 7 [(0, .ref a0), (1, .int y1), (2, .long y2)] → W p l e rm_X7_atom s m args below meth c H locs 0 0 (MQ below (gQ D sz ws0 (ws_X7_atom cI cJ cB a0 a_roots a_moved a_text a_out a_above a_below a_sum a_point a_pointRows a_pointSorts a_kind a_left a_right a_many a_bits a_rows a_table a_row thrown z.2.1 rooted size outSize points takenOut z.2.2.1 at_ fault open_ wrong by_ sort variable_ pointCount z.2.2.2.1 z.2.2.2.2.1 z.2.2.2.2.2.1 z.2.2.2.2.2.2.1 z.2.2.2.2.2.2.2.1 z.2.2.2.2.2.2.2.2.1 z.2.2.2.2.2.2.2.2.2.1 z.2.2.2.2.2.2.2.2.2.2) (some (.int z.1))) args s 0 0 (va_A ws0 sz)) (F0 m 176 ls []) := by
  obtain ⟨F, hr, hlk, hNw⟩ := id CX
  have hx := F.1
  have hb := F.2.1
  have hown := F.2.2.2.1
  have hA : ∀ q, s.heap.size ≤ q → va_A ws0 sz q := fun q hq => Or.inr (hsz ▸ hq)
  intro used great kind left_ right_ many bits rows table row y1 y2 H locs ls h hP hD hS hl
  unfold f_X7_atom_176 at h
  refine lv_iconst (v := 0) hx hb dX7_atom_176 (by decide) ?_
  refine lv_istore (lv' := [(5, .int 0), (0, .ref a0), (1, .int y1), (2, .long y2)]) hx hb dX7_atom_177 hl (by decide) rfl (fun ls hl => ?_)
  exact w_X7_atom_179 CX hK hsz N used great kind left_ right_ many bits rows table row y1 y2 0 _ _ _ h hP hD hS (lv_sub hl [1, 2, 3, 0] rfl)
set_option maxHeartbeats 4000000 in
set_option maxRecDepth 100000 in
theorem w_X7_atom_8 (CX : Cx p m c cX7_atom 7 s args x0 RX7 meth (some .int)) (hK : va_K D vwCl (ty0 cI cJ cB) s) (hsz : s.heap.size = sz) : ∀ (n : Nat), ∀ (used : Int32) (great : Int32) (kind : Nat → Int32) (left_ : Nat → Int32) (right_ : Nat → Int32) (many : Nat → Int32) (bits : Nat → Int32) (rows : Nat → Int32) (table : Nat → Int32) (row : Nat → Int64) (y1 : Int32) (y2 : Int64) (y4 : Int32) (y5 : Int32) (H : Heap) (locs : List Loc) (ls : Array Slot), f_X7_atom_8 N n used great kind left_ right_ many bits rows table row y1 y2 y4 y5 = some z → va_P D vwCl (ws_X7_atom cI cJ cB a0 a_roots a_moved a_text a_out a_above a_below a_sum a_point a_pointRows a_pointSorts a_kind a_left a_right a_many a_bits a_rows a_table a_row thrown used rooted size outSize points takenOut great at_ fault open_ wrong by_ sort variable_ pointCount kind left_ right_ many bits rows table row) H → va_D (va_A ws0 sz) (ws_X7_atom cI cJ cB a0 a_roots a_moved a_text a_out a_above a_below a_sum a_point a_pointRows a_pointSorts a_kind a_left a_right a_many a_bits a_rows a_table a_row thrown used rooted size outSize points takenOut great at_ fault open_ wrong by_ sort variable_ pointCount kind left_ right_ many bits rows table row) → va_S (va_A ws0 sz) s.heap H locs → lv_has ls 7 [(0, .ref a0), (1, .int y1), (2, .long y2), (4, .int y4), (5, .int y5)] → W p l e rm_X7_atom s m args below meth c H locs 0 0 (MQ below (gQ D sz ws0 (ws_X7_atom cI cJ cB a0 a_roots a_moved a_text a_out a_above a_below a_sum a_point a_pointRows a_pointSorts a_kind a_left a_right a_many a_bits a_rows a_table a_row thrown z.2.1 rooted size outSize points takenOut z.2.2.1 at_ fault open_ wrong by_ sort variable_ pointCount z.2.2.2.1 z.2.2.2.2.1 z.2.2.2.2.2.1 z.2.2.2.2.2.2.1 z.2.2.2.2.2.2.2.1 z.2.2.2.2.2.2.2.2.1 z.2.2.2.2.2.2.2.2.2.1 z.2.2.2.2.2.2.2.2.2.2) (some (.int z.1))) args s 0 0 (va_A ws0 sz)) (F0 m 8 ls []) := by
  obtain ⟨F, hr, hlk, hNw⟩ := id CX
  have hx := F.1
  have hb := F.2.1
  have hown := F.2.2.2.1
  have hA : ∀ q, s.heap.size ≤ q → va_A ws0 sz q := fun q hq => Or.inr (hsz ▸ hq)
  intro n
  induction n with
  | zero =>
    intro used great kind left_ right_ many bits rows table row y1 y2 y4 y5 H locs ls h
    cases h
  | succ n ih =>
    intro used great kind left_ right_ many bits rows table row y1 y2 y4 y5 H locs ls h hP hD hS hl
    unfold f_X7_atom_8 at h
    refine lv_iload hx hb dX7_atom_8 (lv_at hl 4 rfl) ?_
    refine lv_bipush (v := 9) hx hb dX7_atom_10 (by decide) ?_
    refine lv_icmp_ge (tgt := 66) hx hb dX7_atom_12 (by decide) (fun c12 => ?_) (fun c12 => ?_)
    · have h := o_t c12 h
      refine lv_iload hx hb dX7_atom_66 (lv_at hl 3 rfl) ?_
      refine lv_if_ge (tgt := 156) hx hb dX7_atom_68 (by decide) (fun c68 => ?_) (fun c68 => ?_)
      · have h := o_t c68 h
        refine lv_iload_n hx hb dX7_atom_156 rfl (lv_at hl 1 rfl) ?_
        refine lv_iconst (v := 2) hx hb dX7_atom_157 (by decide) ?_
        refine lv_icmp_ge (tgt := 176) hx hb dX7_atom_158 (by decide) (fun c158 => ?_) (fun c158 => ?_)
        · have h := o_t c158 h
          exact w_X7_atom_176 CX hK hsz used great kind left_ right_ many bits rows table row y1 y2 _ _ _ h hP hD hS (lv_sub hl [0, 1, 2] rfl)
        · have h := o_f c158 h
          refine lv_aload_n hx hb dX7_atom_161 rfl (lv_at hl 0 rfl) ?_
          refine r_get F hK hP 0 21 rfl inW_X7 wm_1113 rfl (by decide) rfl dX7_atom_162 ?_
          refine lv_iload hx hb dX7_atom_165 (lv_at hl 3 rfl) ?_
          obtain ⟨hi167, h⟩ := o_ix h
          refine va_lald hx hb hK hP 8 1 rfl rfl hi167 dX7_atom_167 ?_
          refine lv_lconst (v := 0) hx hb dX7_atom_168 (by decide) ?_
          refine W.lcmp hx hb dX7_atom_169 ?_
          refine lv_if_ge (tgt := 176) hx hb dX7_atom_170 (by decide) (fun c170 => ?_) (fun c170 => ?_)
          · have h := o_t c170 h
            exact w_X7_atom_176 CX hK hsz used great kind left_ right_ many bits rows table row y1 y2 _ _ _ h hP hD hS (lv_sub hl [0, 1, 2] rfl)
          · have h := o_f c170 h
            refine lv_lload_n hx hb dX7_atom_173 rfl (lv_at hl 2 rfl) ?_
            refine lv_lneg hx hb dX7_atom_174 ?_
            refine lv_lstore_n (lv' := [(2, .long (-y2)), (0, .ref a0), (1, .int y1), (4, .int y4), (5, .int y5)]) hx hb dX7_atom_175 rfl hl (by decide) rfl (fun ls hl => ?_)
            exact w_X7_atom_176 CX hK hsz used great kind left_ right_ many bits rows table row y1 (-y2) _ _ _ h hP hD hS (lv_sub hl [1, 2, 0] rfl)
      · have h := o_f c68 h
        refine lv_aload_n hx hb dX7_atom_71 rfl (lv_at hl 0 rfl) ?_
        refine r_get F hK hP 0 21 rfl inW_X7 wm_1113 rfl (by decide) rfl dX7_atom_72 ?_
        refine lv_bipush (v := 8) hx hb dX7_atom_75 (by decide) ?_
        obtain ⟨hi77, h⟩ := o_ix h
        refine va_lald hx hb hK hP 8 1 rfl rfl hi77 dX7_atom_77 ?_
        refine lv_lstore (lv' := [(5, .long (row (8 : Int32).toNatClampNeg)), (0, .ref a0), (1, .int y1), (2, .long y2), (4, .int y4)]) hx hb dX7_atom_78 hl (by decide) rfl (fun ls hl => ?_)
        refine lv_aload_n hx hb dX7_atom_80 rfl (lv_at hl 1 rfl) ?_
        refine lv_iload_n hx hb dX7_atom_81 rfl (lv_at hl 2 rfl) ?_
        refine lv_if_ne (tgt := 100) hx hb dX7_atom_82 (by decide) (fun c82 => ?_) (fun c82 => ?_)
        · have h := o_f c82 h
          refine lv_iload_n hx hb dX7_atom_100 rfl (lv_at hl 2 rfl) ?_
          refine lv_iconst (v := 1) hx hb dX7_atom_101 (by decide) ?_
          refine lv_icmp_ne (tgt := 120) hx hb dX7_atom_102 (by decide) (fun c102 => ?_) (fun c102 => ?_)
          · have h := o_f c102 h
            refine lv_iload_n hx hb dX7_atom_120 rfl (lv_at hl 2 rfl) ?_
            refine lv_iconst (v := 2) hx hb dX7_atom_121 (by decide) ?_
            refine lv_icmp_ne (tgt := 140) hx hb dX7_atom_122 (by decide) (fun c122 => ?_) (fun c122 => ?_)
            · have h := o_f c122 h
              refine lv_lload hx hb dX7_atom_140 (lv_at hl 0 rfl) ?_
              refine lv_lconst (v := 0) hx hb dX7_atom_142 (by decide) ?_
              refine W.lcmp hx hb dX7_atom_143 ?_
              refine lv_if_gt (tgt := 151) hx hb dX7_atom_144 (by decide) (fun c144 => ?_) (fun c144 => ?_)
              · have h := o_t c144 h
                refine lv_iconst (v := 0) hx hb dX7_atom_151 (by decide) ?_
                exact w_X7_atom_152 CX hK hsz used great kind left_ right_ many bits rows table row 0 _ _ _ h hP hD hS (lv_sub hl [] rfl)
              · have h := o_f c144 h
                refine lv_iconst (v := 1) hx hb dX7_atom_147 (by decide) ?_
                refine lv_goto (tgt := 152) hx hb dX7_atom_148 (by decide) ?_
                exact w_X7_atom_152 CX hK hsz used great kind left_ right_ many bits rows table row 1 _ _ _ h hP hD hS (lv_sub hl [] rfl)
            · have h := o_t c122 h
              refine lv_lload hx hb dX7_atom_125 (lv_at hl 0 rfl) ?_
              refine lv_lconst (v := 0) hx hb dX7_atom_127 (by decide) ?_
              refine W.lcmp hx hb dX7_atom_128 ?_
              refine lv_if_ge (tgt := 136) hx hb dX7_atom_129 (by decide) (fun c129 => ?_) (fun c129 => ?_)
              · have h := o_t c129 h
                refine lv_iconst (v := 0) hx hb dX7_atom_136 (by decide) ?_
                refine lv_goto (tgt := 152) hx hb dX7_atom_137 (by decide) ?_
                exact w_X7_atom_152 CX hK hsz used great kind left_ right_ many bits rows table row 0 _ _ _ h hP hD hS (lv_sub hl [] rfl)
              · have h := o_f c129 h
                refine lv_iconst (v := 1) hx hb dX7_atom_132 (by decide) ?_
                refine lv_goto (tgt := 152) hx hb dX7_atom_133 (by decide) ?_
                exact w_X7_atom_152 CX hK hsz used great kind left_ right_ many bits rows table row 1 _ _ _ h hP hD hS (lv_sub hl [] rfl)
          · have h := o_t c102 h
            refine lv_lload hx hb dX7_atom_105 (lv_at hl 0 rfl) ?_
            refine lv_lconst (v := 0) hx hb dX7_atom_107 (by decide) ?_
            refine W.lcmp hx hb dX7_atom_108 ?_
            refine lv_if_eq (tgt := 116) hx hb dX7_atom_109 (by decide) (fun c109 => ?_) (fun c109 => ?_)
            · have h := o_t c109 h
              refine lv_iconst (v := 0) hx hb dX7_atom_116 (by decide) ?_
              refine lv_goto (tgt := 152) hx hb dX7_atom_117 (by decide) ?_
              exact w_X7_atom_152 CX hK hsz used great kind left_ right_ many bits rows table row 0 _ _ _ h hP hD hS (lv_sub hl [] rfl)
            · have h := o_f c109 h
              refine lv_iconst (v := 1) hx hb dX7_atom_112 (by decide) ?_
              refine lv_goto (tgt := 152) hx hb dX7_atom_113 (by decide) ?_
              exact w_X7_atom_152 CX hK hsz used great kind left_ right_ many bits rows table row 1 _ _ _ h hP hD hS (lv_sub hl [] rfl)
        · have h := o_t c82 h
          refine lv_lload hx hb dX7_atom_85 (lv_at hl 0 rfl) ?_
          refine lv_lconst (v := 0) hx hb dX7_atom_87 (by decide) ?_
          refine W.lcmp hx hb dX7_atom_88 ?_
          refine lv_if_ne (tgt := 96) hx hb dX7_atom_89 (by decide) (fun c89 => ?_) (fun c89 => ?_)
          · have h := o_f c89 h
            refine lv_iconst (v := 0) hx hb dX7_atom_96 (by decide) ?_
            refine lv_goto (tgt := 152) hx hb dX7_atom_97 (by decide) ?_
            exact w_X7_atom_152 CX hK hsz used great kind left_ right_ many bits rows table row 0 _ _ _ h hP hD hS (lv_sub hl [] rfl)
          · have h := o_t c89 h
            refine lv_iconst (v := 1) hx hb dX7_atom_92 (by decide) ?_
            refine lv_goto (tgt := 152) hx hb dX7_atom_93 (by decide) ?_
            exact w_X7_atom_152 CX hK hsz used great kind left_ right_ many bits rows table row 1 _ _ _ h hP hD hS (lv_sub hl [] rfl)
    · have h := o_f c12 h
      refine lv_lload_n hx hb dX7_atom_15 rfl (lv_at hl 2 rfl) ?_
      refine lv_aload_n hx hb dX7_atom_16 rfl (lv_at hl 0 rfl) ?_
      refine r_get F hK hP 0 21 rfl inW_X7 wm_1113 rfl (by decide) rfl dX7_atom_17 ?_
      refine lv_iload hx hb dX7_atom_20 (lv_at hl 4 rfl) ?_
      obtain ⟨hi22, h⟩ := o_ix h
      refine va_lald hx hb hK hP 8 1 rfl rfl hi22 dX7_atom_22 ?_
      obtain ⟨z23, hz23, h⟩ := o_b h
      refine k_s (wn := (ws_X7_atom cI cJ cB a0 a_roots a_moved a_text a_out a_above a_below a_sum a_point a_pointRows a_pointSorts a_kind a_left a_right a_many a_bits a_rows a_table a_row thrown used rooted size outSize points takenOut great at_ fault open_ wrong by_ sort variable_ pointCount kind left_ right_ many bits rows table row)) (As := [.long y2, .long (row y5.toNatClampNeg)]) (rest := []) F hNw hK hP hD hS hA (c_X7_divisor l D cI cJ cB _ y2 (row y5.toNatClampNeg) N hz23) wm_1261 cs_X7_divisor [] [0, 1, 2, 3, 4, 5, 6, 7, 8] [0, 1, 2, 3, 4, 5, 6, 7, 8] (⟨rfl, rfl, rfl, by decide, rfl⟩ : Ix [] [0, 1, 2, 3, 4, 5, 6, 7, 8] [0, 1, 2, 3, 4, 5, 6, 7, 8] 9) rfl (hN_of 9 9 (by decide +kernel) rfl (by decide +kernel) rfl) rfl ⟨rfl, rfl, by decide, by decide⟩ hl.1 rfl (Nat.le_of_ble_eq_true rfl) ⟨Nat.zero_le _, Nat.zero_le _⟩ dX7_atom_23 (fun H locs hP hD hS => ?_)
      refine lv_lstore_n (lv' := [(2, .long z23), (0, .ref a0), (1, .int y1), (4, .int y4), (5, .int y5)]) hx hb dX7_atom_26 rfl hl (by decide) rfl (fun ls hl => ?_)
      refine lv_iload hx hb dX7_atom_27 (lv_at hl 3 rfl) ?_
      refine lv_if_ge (tgt := 56) hx hb dX7_atom_29 (by decide) (fun c29 => ?_) (fun c29 => ?_)
      · have h := o_t c29 h
        exact w_X7_atom_56 CX hK hsz (hK8 := ih) used great kind left_ right_ many bits rows table row y1 z23 y4 y5 _ _ _ h hP hD hS (lv_sub hl [1, 2, 0, 3, 4] rfl)
      · have h := o_f c29 h
        refine lv_iload hx hb dX7_atom_32 (lv_at hl 4 rfl) ?_
        refine lv_bipush (v := 8) hx hb dX7_atom_34 (by decide) ?_
        refine lv_icmp_ge (tgt := 56) hx hb dX7_atom_36 (by decide) (fun c36 => ?_) (fun c36 => ?_)
        · have h := o_t c36 h
          exact w_X7_atom_56 CX hK hsz (hK8 := ih) used great kind left_ right_ many bits rows table row y1 z23 y4 y5 _ _ _ h hP hD hS (lv_sub hl [1, 2, 0, 3, 4] rfl)
        · have h := o_f c36 h
          refine lv_aload_n hx hb dX7_atom_39 rfl (lv_at hl 1 rfl) ?_
          refine r_get F hK hP 0 21 rfl inW_X7 wm_1113 rfl (by decide) rfl dX7_atom_40 ?_
          refine lv_iload hx hb dX7_atom_43 (lv_at hl 4 rfl) ?_
          obtain ⟨hi45, h⟩ := o_ix h
          refine va_lald hx hb hK hP 8 1 rfl rfl hi45 dX7_atom_45 ?_
          refine lv_lconst (v := 0) hx hb dX7_atom_46 (by decide) ?_
          refine W.lcmp hx hb dX7_atom_47 ?_
          refine lv_if_eq (tgt := 56) hx hb dX7_atom_48 (by decide) (fun c48 => ?_) (fun c48 => ?_)
          · have h := o_t c48 h
            exact w_X7_atom_56 CX hK hsz (hK8 := ih) used great kind left_ right_ many bits rows table row y1 z23 y4 y5 _ _ _ h hP hD hS (lv_sub hl [1, 2, 0, 3, 4] rfl)
          · have h := o_f c48 h
            refine lv_iload hx hb dX7_atom_51 (lv_at hl 4 rfl) ?_
            refine lv_goto (tgt := 58) hx hb dX7_atom_53 (by decide) ?_
            exact w_X7_atom_58 CX hK hsz (hK8 := ih) used great kind left_ right_ many bits rows table row y1 z23 y5 y5 _ _ _ h hP hD hS (lv_sub hl [1, 2, 0, 4] rfl)
end G_X7_atom
set_option maxHeartbeats 4000000 in
set_option maxRecDepth 100000 in
theorem c_X7_atom (l : Launch) (D : va_G) (cI cJ cB : ClassId) (a0 a_roots a_moved a_text a_out a_above a_below a_sum a_point a_pointRows a_pointSorts a_kind a_left a_right a_many a_bits a_rows a_table a_row : Nat) (sz : Nat) (thrown : Int32) (used : Int32) (rooted : Int32) (size : Int32) (outSize : Int32) (points : Int32) (takenOut : Int32) (great : Int32) (at_ : Int32) (fault : Int32) (open_ : Int32) (wrong : Int32) (by_ : Int64) (sort : Int32) (variable_ : Int32) (pointCount : Int32) (kind : Nat → Int32) (left_ : Nat → Int32) (right_ : Nat → Int32) (many : Nat → Int32) (bits : Nat → Int32) (rows : Nat → Int32) (table : Nat → Int32) (row : Nat → Int64) (x1 : Int32) (N : Nat) {z : Int32 × (Int32) × (Int32) × (Nat → Int32) × (Nat → Int32) × (Nat → Int32) × (Nat → Int32) × (Nat → Int32) × (Nat → Int32) × (Nat → Int32) × (Nat → Int64)} (h : f_X7_atom N used great kind left_ right_ many bits rows table row x1 = some z) : Mg l yX7_atom cX7_atom 7 (some .int) rm_X7_atom D (ty0 cI cJ cB) [.ref a0, .int x1] sz (ws_X7_atom cI cJ cB a0 a_roots a_moved a_text a_out a_above a_below a_sum a_point a_pointRows a_pointSorts a_kind a_left a_right a_many a_bits a_rows a_table a_row thrown used rooted size outSize points takenOut great at_ fault open_ wrong by_ sort variable_ pointCount kind left_ right_ many bits rows table row) (some (.int z.1)) (ws_X7_atom cI cJ cB a0 a_roots a_moved a_text a_out a_above a_below a_sum a_point a_pointRows a_pointSorts a_kind a_left a_right a_many a_bits a_rows a_table a_row thrown z.2.1 rooted size outSize points takenOut z.2.2.1 at_ fault open_ wrong by_ sort variable_ pointCount z.2.2.2.1 z.2.2.2.2.1 z.2.2.2.2.2.1 z.2.2.2.2.2.2.1 z.2.2.2.2.2.2.2.1 z.2.2.2.2.2.2.2.2.1 z.2.2.2.2.2.2.2.2.2.1 z.2.2.2.2.2.2.2.2.2.2) := by
  refine Mg.of (by decide) (Nat.le_of_ble_eq_true rfl) ?_
  intro p e s m below meth c CX hK hsz hP hD ls hl
  have CX : Cx p m c cX7_atom 7 s ([.ref a0, .int x1] : List Value).toArray (Cond.code yX7_atom cX7_atom 7 (some .int)) RX7 meth (some .int) := CX
  obtain ⟨F, hr, hlk, hNw⟩ := id CX
  have hx := F.1
  have hb := F.2.1
  have hown := F.2.2.2.1
  have hl : lv_has ls 7 [(0, .ref a0), (1, .int x1)] := hl
  have hS : va_S (va_A (ws_X7_atom cI cJ cB a0 a_roots a_moved a_text a_out a_above a_below a_sum a_point a_pointRows a_pointSorts a_kind a_left a_right a_many a_bits a_rows a_table a_row thrown used rooted size outSize points takenOut great at_ fault open_ wrong by_ sort variable_ pointCount kind left_ right_ many bits rows table row) sz) s.heap s.heap [] := va_S.rf
  have hA : ∀ q, s.heap.size ≤ q → va_A (ws_X7_atom cI cJ cB a0 a_roots a_moved a_text a_out a_above a_below a_sum a_point a_pointRows a_pointSorts a_kind a_left a_right a_many a_bits a_rows a_table a_row thrown used rooted size outSize points takenOut great at_ fault open_ wrong by_ sort variable_ pointCount kind left_ right_ many bits rows table row) sz q := fun q hq => Or.inr (hsz ▸ hq)
  unfold f_X7_atom at h
  refine lv_lconst (v := 0) hx hb dX7_atom_0 (by decide) ?_
  refine lv_lstore_n (lv' := [(2, .long 0), (0, .ref a0), (1, .int x1)]) hx hb dX7_atom_1 rfl hl (by decide) rfl (fun ls hl => ?_)
  refine lv_iconst (v := (-1)) hx hb dX7_atom_2 (by decide) ?_
  refine lv_istore (lv' := [(4, .int (-1)), (2, .long 0), (0, .ref a0), (1, .int x1)]) hx hb dX7_atom_3 hl (by decide) rfl (fun ls hl => ?_)
  refine lv_iconst (v := 0) hx hb dX7_atom_5 (by decide) ?_
  refine lv_istore (lv' := [(5, .int 0), (4, .int (-1)), (2, .long 0), (0, .ref a0), (1, .int x1)]) hx hb dX7_atom_6 hl (by decide) rfl (fun ls hl => ?_)
  exact w_X7_atom_8 CX hK hsz N used great kind left_ right_ many bits rows table row x1 0 (-1) 0 _ _ _ h hP hD hS (lv_sub hl [3, 4, 2, 1, 0] rfl)
