theorem inW_X1 : ∀ w ∈ u_ws RX1 TX1 9, w ∈ W0 := by
  have h : ∀ w ∈ u_ws RX1 TX1 9, w ∈ lw_tbl ∧ goodWord w = true := by decide +kernel
  exact fun w hw => List.mem_filter.mpr (h w hw)
theorem wm_210 : (Cond.fieldLink "LinearTruths$Freer" 16 "LinearTruths$Freer" "bench" "LLinearTruths$Bench;") ∈ W0 := q_m 210 (by decide +kernel) (by decide +kernel)
theorem wm_212 : (Cond.fieldLink "LinearTruths$Freer" 23 "LinearTruths$Freer" "body" "LLinearTruths$Tree;") ∈ W0 := q_m 212 (by decide +kernel) (by decide +kernel)
theorem wm_213 : (Cond.fieldLink "LinearTruths$Freer" 30 "LinearTruths$Freer" "sum" "LLinearTruths$Sum;") ∈ W0 := q_m 213 (by decide +kernel) (by decide +kernel)
theorem wm_214 : (Cond.fieldLink "LinearTruths$Freer" 34 "LinearTruths$Freer" "rowsOfPoints" "[I") ∈ W0 := q_m 214 (by decide +kernel) (by decide +kernel)
theorem wm_215 : (Cond.fieldLink "LinearTruths$Freer" 38 "LinearTruths$Freer" "spans" "[I") ∈ W0 := q_m 215 (by decide +kernel) (by decide +kernel)
theorem wm_216 : (Cond.fieldLink "LinearTruths$Freer" 41 "LinearTruths$Freer" "bound" "[I") ∈ W0 := q_m 216 (by decide +kernel) (by decide +kernel)
theorem wm_217 : (Cond.fieldLink "LinearTruths$Freer" 132 "LinearTruths$Freer" "points" "I") ∈ W0 := q_m 217 (by decide +kernel) (by decide +kernel)
theorem wm_218 : (Cond.fieldLink "LinearTruths$Freer" 47 "LinearTruths$Freer" "pointsPut" "I") ∈ W0 := q_m 218 (by decide +kernel) (by decide +kernel)
theorem wm_220 : (Cond.fieldLink "LinearTruths$Freer" 51 "LinearTruths$Freer" "takenOut" "I") ∈ W0 := q_m 220 (by decide +kernel) (by decide +kernel)
theorem wm_831 : (Cond.methodLink "LinearTruths$Freer" 44 yX0_begin) ∈ W0 := q_m 831 (by decide +kernel) (by decide +kernel)
theorem wm_832 : (Cond.methodLink "LinearTruths$Freer" 57 yX5_kind) ∈ W0 := q_m 832 (by decide +kernel) (by decide +kernel)
theorem wm_833 : (Cond.methodLink "LinearTruths$Freer" 64 yX5_reserve) ∈ W0 := q_m 833 (by decide +kernel) (by decide +kernel)
theorem wm_845 : (Cond.methodLink "LinearTruths$Freer" 68 yX0_pushRow) ∈ W0 := q_m 845 (by decide +kernel) (by decide +kernel)
theorem wm_854 : (Cond.methodLink "LinearTruths$Freer" 72 yX0_join) ∈ W0 := q_m 854 (by decide +kernel) (by decide +kernel)
theorem wm_855 : (Cond.methodLink "LinearTruths$Freer" 75 yX5_number) ∈ W0 := q_m 855 (by decide +kernel) (by decide +kernel)
theorem wm_856 : (Cond.methodLink "LinearTruths$Freer" 79 yX1_takeOut) ∈ W0 := q_m 856 (by decide +kernel) (by decide +kernel)
theorem wm_860 : (Cond.methodLink "LinearTruths$Freer" 119 yX0_lastLoose) ∈ W0 := q_m 860 (by decide +kernel) (by decide +kernel)
theorem wm_861 : (Cond.methodLink "LinearTruths$Freer" 122 yX0_negateLast) ∈ W0 := q_m 861 (by decide +kernel) (by decide +kernel)
theorem wm_862 : (Cond.methodLink "LinearTruths$Freer" 125 yX0_moveLast) ∈ W0 := q_m 862 (by decide +kernel) (by decide +kernel)
theorem wm_867 : (Cond.methodLink "LinearTruths$Freer" 129 yX1_collectPoints) ∈ W0 := q_m 867 (by decide +kernel) (by decide +kernel)
theorem wm_871 : (Cond.methodLink "LinearTruths$Freer" 141 yX1_addPoint) ∈ W0 := q_m 871 (by decide +kernel) (by decide +kernel)
theorem wm_875 : (Cond.methodLink "LinearTruths$Freer" 145 yJ9_abs_0f7a4) ∈ W0 := q_m 875 (by decide +kernel) (by decide +kernel)
theorem wm_878 : (Cond.methodLink "LinearTruths$Freer" 148 yX1_isSamePoint) ∈ W0 := q_m 878 (by decide +kernel) (by decide +kernel)
theorem wm_882 : (Cond.methodLink "LinearTruths$Freer" 135 yX1_putIn) ∈ W0 := q_m 882 (by decide +kernel) (by decide +kernel)
theorem wm_886 : (Cond.methodLink "LinearTruths$Freer" 151 yX0_push) ∈ W0 := q_m 886 (by decide +kernel) (by decide +kernel)
theorem wm_887 : (Cond.methodLink "LinearTruths$Freer" 105 yX1_replace) ∈ W0 := q_m 887 (by decide +kernel) (by decide +kernel)
theorem wm_891 : (Cond.methodLink "LinearTruths$Freer" 154 yX4_empty) ∈ W0 := q_m 891 (by decide +kernel) (by decide +kernel)
theorem wm_892 : (Cond.methodLink "LinearTruths$Freer" 157 yX4_add) ∈ W0 := q_m 892 (by decide +kernel) (by decide +kernel)
theorem wm_893 : (Cond.methodLink "LinearTruths$Freer" 161 yX4_settle) ∈ W0 := q_m 893 (by decide +kernel) (by decide +kernel)
theorem wm_894 : (Cond.methodLink "LinearTruths$Freer" 164 yX0_pushSettled) ∈ W0 := q_m 894 (by decide +kernel) (by decide +kernel)
theorem wm_895 : (Cond.methodLink "LinearTruths$Freer" 83 yX0_lastNodes) ∈ W0 := q_m 895 (by decide +kernel) (by decide +kernel)
theorem wm_899 : (Cond.methodLink "LinearTruths$Freer" 138 yX0_lastKind) ∈ W0 := q_m 899 (by decide +kernel) (by decide +kernel)
theorem wm_908 : (Cond.methodLink "LinearTruths$Freer" 87 yJ7_fill_fda19) ∈ W0 := q_m 908 (by decide +kernel) (by decide +kernel)
theorem wm_909 : (Cond.methodLink "LinearTruths$Freer" 93 yX1_markBound) ∈ W0 := q_m 909 (by decide +kernel) (by decide +kernel)
theorem wm_913 : (Cond.methodLink "LinearTruths$Freer" 96 yJ9_min_7cf53) ∈ W0 := q_m 913 (by decide +kernel) (by decide +kernel)
theorem wm_914 : (Cond.methodLink "LinearTruths$Freer" 109 yX5_measure) ∈ W0 := q_m 914 (by decide +kernel) (by decide +kernel)
theorem wm_918 : (Cond.methodLink "LinearTruths$Freer" 113 yJ7_fill_53178) ∈ W0 := q_m 918 (by decide +kernel) (by decide +kernel)
theorem wm_919 : (Cond.methodLink "LinearTruths$Freer" 116 yJ9_max_7cf53) ∈ W0 := q_m 919 (by decide +kernel) (by decide +kernel)
theorem wm_920 : (Cond.methodLink "LinearTruths$Freer" 101 yX0_bind) ∈ W0 := q_m 920 (by decide +kernel) (by decide +kernel)
theorem nf_X1_54 : (RX1, 54, "LinearTruths$Tree", "rows", "I", "LinearTruths") ∈ NF := by decide +kernel
theorem nf_X1_61 : (RX1, 61, "LinearTruths$Bench", "tree", "LLinearTruths$Tree;", "LinearTruths") ∈ NF := by decide +kernel
theorem cs_J7_fill_53178 : Cs yJ7_fill_53178 cJ7_fill_53178 4 none 2 := ⟨q_m 267 (by decide +kernel) (by decide +kernel), q_m 79 (by decide +kernel) (by decide +kernel), q_m 268 (by decide +kernel) (by decide +kernel), by decide +kernel⟩
theorem cv_X0_lastLoose : Cv RX0 yX0_lastLoose cX0_lastLoose 1 (some .int) 0 := ⟨q_m 816 (by decide +kernel) (by decide +kernel), q_m 817 (by decide +kernel) (by decide +kernel), q_m 73 (by decide +kernel) (by decide +kernel), q_m 818 (by decide +kernel) (by decide +kernel), by decide +kernel⟩
theorem cv_X0_lastNodes : Cv RX0 yX0_lastNodes cX0_lastNodes 1 (some .int) 0 := ⟨q_m 896 (by decide +kernel) (by decide +kernel), q_m 897 (by decide +kernel) (by decide +kernel), q_m 73 (by decide +kernel) (by decide +kernel), q_m 898 (by decide +kernel) (by decide +kernel), by decide +kernel⟩
theorem cv_X0_moveLast : Cv RX0 yX0_moveLast cX0_moveLast 2 none 1 := ⟨q_m 863 (by decide +kernel) (by decide +kernel), q_m 864 (by decide +kernel) (by decide +kernel), q_m 73 (by decide +kernel) (by decide +kernel), q_m 865 (by decide +kernel) (by decide +kernel), by decide +kernel⟩
theorem cv_X0_pushRow : Cv RX0 yX0_pushRow cX0_pushRow 5 none 2 := ⟨q_m 846 (by decide +kernel) (by decide +kernel), q_m 847 (by decide +kernel) (by decide +kernel), q_m 73 (by decide +kernel) (by decide +kernel), q_m 848 (by decide +kernel) (by decide +kernel), by decide +kernel⟩
theorem cv_X1_addPoint : Cv RX1 yX1_addPoint cX1_addPoint 8 none 3 := ⟨q_m 873 (by decide +kernel) (by decide +kernel), q_m 23 (by decide +kernel) (by decide +kernel), q_m 77 (by decide +kernel) (by decide +kernel), q_m 874 (by decide +kernel) (by decide +kernel), by decide +kernel⟩
theorem cv_X1_collectPoints : Cv RX1 yX1_collectPoints cX1_collectPoints 6 none 1 := ⟨q_m 869 (by decide +kernel) (by decide +kernel), q_m 22 (by decide +kernel) (by decide +kernel), q_m 77 (by decide +kernel) (by decide +kernel), q_m 870 (by decide +kernel) (by decide +kernel), by decide +kernel⟩
theorem cv_X1_isSamePoint : Cv RX1 yX1_isSamePoint cX1_isSamePoint 4 (some .boolean) 2 := ⟨q_m 880 (by decide +kernel) (by decide +kernel), q_m 24 (by decide +kernel) (by decide +kernel), q_m 77 (by decide +kernel) (by decide +kernel), q_m 881 (by decide +kernel) (by decide +kernel), by decide +kernel⟩
theorem cv_X1_markBound : Cv RX1 yX1_markBound cX1_markBound 6 none 2 := ⟨q_m 911 (by decide +kernel) (by decide +kernel), q_m 27 (by decide +kernel) (by decide +kernel), q_m 77 (by decide +kernel) (by decide +kernel), q_m 912 (by decide +kernel) (by decide +kernel), by decide +kernel⟩
theorem cv_X1_putIn : Cv RX1 yX1_putIn cX1_putIn 6 (some .boolean) 2 := ⟨q_m 884 (by decide +kernel) (by decide +kernel), q_m 25 (by decide +kernel) (by decide +kernel), q_m 77 (by decide +kernel) (by decide +kernel), q_m 885 (by decide +kernel) (by decide +kernel), by decide +kernel⟩
theorem cv_X1_replace : Cv RX1 yX1_replace cX1_replace 14 (some .boolean) 4 := ⟨q_m 889 (by decide +kernel) (by decide +kernel), q_m 26 (by decide +kernel) (by decide +kernel), q_m 77 (by decide +kernel) (by decide +kernel), q_m 890 (by decide +kernel) (by decide +kernel), by decide +kernel⟩
theorem cv_X1_takeOut : Cv RX1 yX1_takeOut cX1_takeOut 4 (some .boolean) 2 := ⟨q_m 858 (by decide +kernel) (by decide +kernel), q_m 21 (by decide +kernel) (by decide +kernel), q_m 77 (by decide +kernel) (by decide +kernel), q_m 859 (by decide +kernel) (by decide +kernel), by decide +kernel⟩
theorem cv_X5_reserve : Cv RX5 yX5_reserve cX5_reserve 3 (some .boolean) 1 := ⟨q_m 834 (by decide +kernel) (by decide +kernel), q_m 835 (by decide +kernel) (by decide +kernel), q_m 74 (by decide +kernel) (by decide +kernel), q_m 836 (by decide +kernel) (by decide +kernel), by decide +kernel⟩
section G_X1_markBound
abbrev ws_X1_markBound (cI cJ cB : ClassId) (a0 a_bench a_body a_sum a_rowsOfPoints a_spans a_bound a_p1 a_p1_cells : Nat) (points : Int32) (pointsPut : Int32) (takenOut : Int32) (spans : Nat → Int32) (bound : Nat → Int32) (p1_rows : Int32) (p1_cells : Nat → Int32) (p1_cells_n : Nat) : va_W := [(a0, .inr (3, [.ref a_bench, .ref a_body, .ref a_sum, .ref a_rowsOfPoints, .ref a_spans, .ref a_bound, .int points, .int pointsPut, .int takenOut])), (a_spans, .inl (cI, 400, .inl spans)), (a_bound, .inl (cI, 400, .inl bound)), (a_p1, .inr (7, [.ref a_p1_cells, .int p1_rows])), (a_p1_cells, .inl (cI, p1_cells_n, .inl p1_cells))]
abbrev rm_X1_markBound : Room := { frames := 2, cells := 0, slots := 0, locals := 49 }
def f_X1_markBound_92 (K30 : (Nat → Int32) → (Nat → Int32) → Int32 → (Nat → Int32) → Nat → Int32 → Int32 → Int32 → Option ((Nat → Int32) × (Nat → Int32))) (N : Nat) (spans : Nat → Int32) (bound : Nat → Int32) (p1_rows : Int32) (p1_cells : Nat → Int32) (p1_cells_n : Nat) (y2 : Int32) (y3 : Int32) (y4 : Int32) : Option ((Nat → Int32) × (Nat → Int32)) := K30 spans bound p1_rows p1_cells p1_cells_n y2 y3 (y4 + 1)
def f_X1_markBound_71 (K30 : (Nat → Int32) → (Nat → Int32) → Int32 → (Nat → Int32) → Nat → Int32 → Int32 → Int32 → Option ((Nat → Int32) × (Nat → Int32))) (N : Nat) : Nat → (Nat → Int32) → (Nat → Int32) → Int32 → (Nat → Int32) → Nat → Int32 → Int32 → Int32 → Int32 → Option ((Nat → Int32) × (Nat → Int32))
  | 0 => fun _ _ _ _ _ _ _ _ _ => none
  | n + 1 => fun spans bound p1_rows p1_cells p1_cells_n y2 y3 y4 y5 => ifb (y4 ≤ y5) (f_X1_markBound_92 K30 N spans bound p1_rows p1_cells p1_cells_n y2 y3 y4) (ix y5 400 (f_X1_markBound_71 K30 N n spans (upd bound y5.toNatClampNeg 1) p1_rows p1_cells p1_cells_n y2 y3 y4 (y5 + 1)))
def f_X1_markBound_30 (N : Nat) : Nat → (Nat → Int32) → (Nat → Int32) → Int32 → (Nat → Int32) → Nat → Int32 → Int32 → Int32 → Option ((Nat → Int32) × (Nat → Int32))
  | 0 => fun _ _ _ _ _ _ _ _ => none
  | n + 1 => fun spans bound p1_rows p1_cells p1_cells_n y2 y3 y4 => ifb (y3 ≤ y4) (some (spans, bound)) ((f_X5_kind N p1_rows p1_cells p1_cells_n y4).bind (fun z39 => ifb (z39 < 8) (f_X1_markBound_92 (f_X1_markBound_30 N n) N spans bound p1_rows p1_cells p1_cells_n y2 y3 y4) ((f_X5_number N p1_rows p1_cells p1_cells_n y4 0).bind (fun z51 => ifb (z51 = y2) (ix y4 400 (f_X1_markBound_71 (f_X1_markBound_30 N n) N N spans bound p1_rows p1_cells p1_cells_n y2 y3 y4 (jmax (spans y4.toNatClampNeg) 0))) (f_X1_markBound_92 (f_X1_markBound_30 N n) N spans bound p1_rows p1_cells p1_cells_n y2 y3 y4)))))
def f_X1_markBound (N : Nat) (spans : Nat → Int32) (bound : Nat → Int32) (p1_rows : Int32) (p1_cells : Nat → Int32) (p1_cells_n : Nat) (x2 : Int32) : Option ((Nat → Int32) × (Nat → Int32)) := (f_X5_measure N p1_rows p1_cells p1_cells_n spans 400).bind (fun z16 => (f_J7_fill_53178 N bound 400 0).bind (fun z24 => f_X1_markBound_30 N N z16 z24 p1_rows p1_cells p1_cells_n x2 (jmin p1_rows 400) 0))
variable {p : Program} {l : Launch} {e : Env} {s : State} {m : MethodId} {below : List Frame} {meth : Method} {c : Code} {args : Array Value} {x0 : Cond} {D : va_G} {cI cJ cB : ClassId} {sz N : Nat} {ws0 : va_W} {a0 a_bench a_body a_sum a_rowsOfPoints a_spans a_bound a_p1 a_p1_cells : Nat} {points : Int32} {pointsPut : Int32} {takenOut : Int32} {p1_rows : Int32} {p1_cells : Nat → Int32} {p1_cells_n : Nat} {z : (Nat → Int32) × (Nat → Int32)}
set_option maxHeartbeats 4000000 in
set_option maxRecDepth 100000 in
theorem w_X1_markBound_92 (CX : Cx p m c cX1_markBound 6 s args x0 RX1 meth none) (hK : va_K D vwCl (ty0 cI cJ cB) s) (hsz : s.heap.size = sz) {K30 : (Nat → Int32) → (Nat → Int32) → Int32 → (Nat → Int32) → Nat → Int32 → Int32 → Int32 → Option ((Nat → Int32) × (Nat → Int32))} (hK30 : ∀ (spans : Nat → Int32) (bound : Nat → Int32) (y2 : Int32) (y3 : Int32) (y4 : Int32) (H : Heap) (locs : List Loc) (ls : Array Slot), K30 spans bound p1_rows p1_cells p1_cells_n y2 y3 y4 = some z → va_P D vwCl (ws_X1_markBound cI cJ cB a0 a_bench a_body a_sum a_rowsOfPoints a_spans a_bound a_p1 a_p1_cells points pointsPut takenOut spans bound p1_rows p1_cells p1_cells_n) H → va_D (va_A ws0 sz) (ws_X1_markBound cI cJ cB a0 a_bench a_body a_sum a_rowsOfPoints a_spans a_bound a_p1 a_p1_cells points pointsPut takenOut spans bound p1_rows p1_cells p1_cells_n) → va_S (va_A ws0 sz) s.heap H locs → lv_has ls 6 [(0, .ref a0), (1, .ref a_p1), (2, .int y2), (3, .int y3), (4, .int y4)] → W p l e rm_X1_markBound s m args below meth c H locs 0 0 (MQ below (gQ D sz ws0 (ws_X1_markBound cI cJ cB a0 a_bench a_body a_sum a_rowsOfPoints a_spans a_bound a_p1 a_p1_cells points pointsPut takenOut z.1 z.2 p1_rows p1_cells p1_cells_n) none) args s 0 0 (va_A ws0 sz)) (F0 m 30 ls [])) : ∀ (spans : Nat → Int32) (bound : Nat → Int32) (y2 : Int32) (y3 : Int32) (y4 : Int32) (H : Heap) (locs : List Loc) (ls : Array Slot), f_X1_markBound_92 K30 N spans bound p1_rows p1_cells p1_cells_n y2 y3 y4 = some z → va_P D vwCl (ws_X1_markBound cI cJ cB a0 a_bench a_body a_sum a_rowsOfPoints a_spans a_bound a_p1 a_p1_cells points pointsPut takenOut spans bound p1_rows p1_cells p1_cells_n) H → va_D (va_A ws0 sz) (ws_X1_markBound cI cJ cB a0 a_bench a_body a_sum a_rowsOfPoints a_spans a_bound a_p1 a_p1_cells points pointsPut takenOut spans bound p1_rows p1_cells p1_cells_n) → va_S (va_A ws0 sz) s.heap H locs → lv_has ls 6 [(0, .ref a0), (1, .ref a_p1), (2, .int y2), (3, .int y3), (4, .int y4)] → W p l e rm_X1_markBound s m args below meth c H locs 0 0 (MQ below (gQ D sz ws0 (ws_X1_markBound cI cJ cB a0 a_bench a_body a_sum a_rowsOfPoints a_spans a_bound a_p1 a_p1_cells points pointsPut takenOut z.1 z.2 p1_rows p1_cells p1_cells_n) none) args s 0 0 (va_A ws0 sz)) (F0 m 92 ls []) := by
  obtain ⟨F, hr, hlk, hNw⟩ := id CX
  have hx := F.1
  have hb := F.2.1
  have hown := F.2.2.2.1
  have hA : ∀ q, s.heap.size ≤ q → va_A ws0 sz q := fun q hq => Or.inr (hsz ▸ hq)
  intro spans bound y2 y3 y4 H locs ls h hP hD hS hl
  unfold f_X1_markBound_92 at h
  refine lv_iinc (v := y4 + 1) (lv' := [(4, .int (y4 + 1)), (0, .ref a0), (1, .ref a_p1), (2, .int y2), (3, .int y3)]) hx hb dX1_markBound_92 hl (k := 4) rfl rfl (by decide) rfl (fun ls hl => ?_)
  refine lv_goto (tgt := 30) hx hb dX1_markBound_95 (by decide) ?_
  exact hK30 spans bound y2 y3 (y4 + 1) _ _ _ h hP hD hS (lv_sub hl [1, 2, 3, 4, 0] rfl)
set_option maxHeartbeats 4000000 in
set_option maxRecDepth 100000 in
theorem w_X1_markBound_71 (CX : Cx p m c cX1_markBound 6 s args x0 RX1 meth none) (hK : va_K D vwCl (ty0 cI cJ cB) s) (hsz : s.heap.size = sz) {K30 : (Nat → Int32) → (Nat → Int32) → Int32 → (Nat → Int32) → Nat → Int32 → Int32 → Int32 → Option ((Nat → Int32) × (Nat → Int32))} (hK30 : ∀ (spans : Nat → Int32) (bound : Nat → Int32) (y2 : Int32) (y3 : Int32) (y4 : Int32) (H : Heap) (locs : List Loc) (ls : Array Slot), K30 spans bound p1_rows p1_cells p1_cells_n y2 y3 y4 = some z → va_P D vwCl (ws_X1_markBound cI cJ cB a0 a_bench a_body a_sum a_rowsOfPoints a_spans a_bound a_p1 a_p1_cells points pointsPut takenOut spans bound p1_rows p1_cells p1_cells_n) H → va_D (va_A ws0 sz) (ws_X1_markBound cI cJ cB a0 a_bench a_body a_sum a_rowsOfPoints a_spans a_bound a_p1 a_p1_cells points pointsPut takenOut spans bound p1_rows p1_cells p1_cells_n) → va_S (va_A ws0 sz) s.heap H locs → lv_has ls 6 [(0, .ref a0), (1, .ref a_p1), (2, .int y2), (3, .int y3), (4, .int y4)] → W p l e rm_X1_markBound s m args below meth c H locs 0 0 (MQ below (gQ D sz ws0 (ws_X1_markBound cI cJ cB a0 a_bench a_body a_sum a_rowsOfPoints a_spans a_bound a_p1 a_p1_cells points pointsPut takenOut z.1 z.2 p1_rows p1_cells p1_cells_n) none) args s 0 0 (va_A ws0 sz)) (F0 m 30 ls [])) : ∀ (n : Nat), ∀ (spans : Nat → Int32) (bound : Nat → Int32) (y2 : Int32) (y3 : Int32) (y4 : Int32) (y5 : Int32) (H : Heap) (locs : List Loc) (ls : Array Slot), f_X1_markBound_71 K30 N n spans bound p1_rows p1_cells p1_cells_n y2 y3 y4 y5 = some z → va_P D vwCl (ws_X1_markBound cI cJ cB a0 a_bench a_body a_sum a_rowsOfPoints a_spans a_bound a_p1 a_p1_cells points pointsPut takenOut spans bound p1_rows p1_cells p1_cells_n) H → va_D (va_A ws0 sz) (ws_X1_markBound cI cJ cB a0 a_bench a_body a_sum a_rowsOfPoints a_spans a_bound a_p1 a_p1_cells points pointsPut takenOut spans bound p1_rows p1_cells p1_cells_n) → va_S (va_A ws0 sz) s.heap H locs → lv_has ls 6 [(0, .ref a0), (1, .ref a_p1), (2, .int y2), (3, .int y3), (4, .int y4), (5, .int y5)] → W p l e rm_X1_markBound s m args below meth c H locs 0 0 (MQ below (gQ D sz ws0 (ws_X1_markBound cI cJ cB a0 a_bench a_body a_sum a_rowsOfPoints a_spans a_bound a_p1 a_p1_cells points pointsPut takenOut z.1 z.2 p1_rows p1_cells p1_cells_n) none) args s 0 0 (va_A ws0 sz)) (F0 m 71 ls []) := by
  obtain ⟨F, hr, hlk, hNw⟩ := id CX
  have hx := F.1
  have hb := F.2.1
  have hown := F.2.2.2.1
  have hA : ∀ q, s.heap.size ≤ q → va_A ws0 sz q := fun q hq => Or.inr (hsz ▸ hq)
  intro n
  induction n with
  | zero =>
    intro spans bound y2 y3 y4 y5 H locs ls h
    cases h
  | succ n ih =>
    intro spans bound y2 y3 y4 y5 H locs ls h hP hD hS hl
    unfold f_X1_markBound_71 at h
    refine lv_iload hx hb dX1_markBound_71 (lv_at hl 5 rfl) ?_
    refine lv_iload hx hb dX1_markBound_73 (lv_at hl 4 rfl) ?_
    refine lv_icmp_ge (tgt := 92) hx hb dX1_markBound_75 (by decide) (fun c75 => ?_) (fun c75 => ?_)
    · have h := o_t c75 h
      exact w_X1_markBound_92 CX hK hsz (hK30 := hK30) spans bound y2 y3 y4 _ _ _ h hP hD hS (lv_sub hl [0, 1, 2, 3, 4] rfl)
    · have h := o_f c75 h
      refine lv_aload_n hx hb dX1_markBound_78 rfl (lv_at hl 0 rfl) ?_
      refine r_get F hK hP 0 5 rfl inW_X1 wm_216 rfl (by decide) rfl dX1_markBound_79 ?_
      refine lv_iload hx hb dX1_markBound_82 (lv_at hl 5 rfl) ?_
      refine lv_iconst (v := 1) hx hb dX1_markBound_84 (by decide) ?_
      obtain ⟨hi85, h⟩ := o_ix h
      refine r_iast (wn := (ws_X1_markBound cI cJ cB a0 a_bench a_body a_sum a_rowsOfPoints a_spans a_bound a_p1 a_p1_cells points pointsPut takenOut spans (upd bound y5.toNatClampNeg 1) p1_rows p1_cells p1_cells_n)) F hK hP hD hS 2 0 hi85 rfl rfl rfl dX1_markBound_85 (fun H locs hP hD hS => ?_)
      refine lv_iinc (v := y5 + 1) (lv' := [(5, .int (y5 + 1)), (0, .ref a0), (1, .ref a_p1), (2, .int y2), (3, .int y3), (4, .int y4)]) hx hb dX1_markBound_86 hl (k := 5) rfl rfl (by decide) rfl (fun ls hl => ?_)
      refine lv_goto (tgt := 71) hx hb dX1_markBound_89 (by decide) ?_
      exact ih spans (upd bound y5.toNatClampNeg 1) y2 y3 y4 (y5 + 1) _ _ _ h hP hD hS (lv_sub hl [1, 2, 3, 4, 5, 0] rfl)
set_option maxHeartbeats 4000000 in
set_option maxRecDepth 100000 in
theorem w_X1_markBound_30 (CX : Cx p m c cX1_markBound 6 s args x0 RX1 meth none) (hK : va_K D vwCl (ty0 cI cJ cB) s) (hsz : s.heap.size = sz) : ∀ (n : Nat), ∀ (spans : Nat → Int32) (bound : Nat → Int32) (y2 : Int32) (y3 : Int32) (y4 : Int32) (H : Heap) (locs : List Loc) (ls : Array Slot), f_X1_markBound_30 N n spans bound p1_rows p1_cells p1_cells_n y2 y3 y4 = some z → va_P D vwCl (ws_X1_markBound cI cJ cB a0 a_bench a_body a_sum a_rowsOfPoints a_spans a_bound a_p1 a_p1_cells points pointsPut takenOut spans bound p1_rows p1_cells p1_cells_n) H → va_D (va_A ws0 sz) (ws_X1_markBound cI cJ cB a0 a_bench a_body a_sum a_rowsOfPoints a_spans a_bound a_p1 a_p1_cells points pointsPut takenOut spans bound p1_rows p1_cells p1_cells_n) → va_S (va_A ws0 sz) s.heap H locs → lv_has ls 6 [(0, .ref a0), (1, .ref a_p1), (2, .int y2), (3, .int y3), (4, .int y4)] → W p l e rm_X1_markBound s m args below meth c H locs 0 0 (MQ below (gQ D sz ws0 (ws_X1_markBound cI cJ cB a0 a_bench a_body a_sum a_rowsOfPoints a_spans a_bound a_p1 a_p1_cells points pointsPut takenOut z.1 z.2 p1_rows p1_cells p1_cells_n) none) args s 0 0 (va_A ws0 sz)) (F0 m 30 ls []) := by
  obtain ⟨F, hr, hlk, hNw⟩ := id CX
  have hx := F.1
  have hb := F.2.1
  have hown := F.2.2.2.1
  have hA : ∀ q, s.heap.size ≤ q → va_A ws0 sz q := fun q hq => Or.inr (hsz ▸ hq)
  intro n
  induction n with
  | zero =>
    intro spans bound y2 y3 y4 H locs ls h
    cases h
  | succ n ih =>
    intro spans bound y2 y3 y4 H locs ls h hP hD hS hl
    unfold f_X1_markBound_30 at h
    refine lv_iload hx hb dX1_markBound_30 (lv_at hl 4 rfl) ?_
    refine lv_iload_n hx hb dX1_markBound_32 rfl (lv_at hl 3 rfl) ?_
    refine lv_icmp_ge (tgt := 98) hx hb dX1_markBound_33 (by decide) (fun c33 => ?_) (fun c33 => ?_)
    · have h := o_t c33 h
      obtain rfl := Option.some.inj h
      exact r_vret F hr hlk dX1_markBound_98 hsz hP hD hS
    · have h := o_f c33 h
      refine lv_aload_n hx hb dX1_markBound_36 rfl (lv_at hl 1 rfl) ?_
      refine lv_iload hx hb dX1_markBound_37 (lv_at hl 4 rfl) ?_
      obtain ⟨z39, hz39, h⟩ := o_b h
      refine k_v (wn := (ws_X1_markBound cI cJ cB a0 a_bench a_body a_sum a_rowsOfPoints a_spans a_bound a_p1 a_p1_cells points pointsPut takenOut spans bound p1_rows p1_cells p1_cells_n)) (As := [.int y4]) (rest := []) F hNw hK hP hD hS hA (c_X5_kind l D cI cJ cB a_p1 a_p1_cells _ p1_rows p1_cells p1_cells_n y4 N hz39) wm_832 cv_X5_kind [3, 4] [0, 1, 2] [0, 1, 2, 3, 4] (⟨rfl, rfl, rfl, by decide, rfl⟩ : Ix [3, 4] [0, 1, 2] [0, 1, 2, 3, 4] 5) rfl rfl rfl rfl rfl rfl ⟨rfl, rfl, by decide, by decide⟩ hl.1 rfl (Nat.le_of_ble_eq_true rfl) ⟨Nat.zero_le _, Nat.zero_le _⟩ dX1_markBound_39 (fun H locs hP hD hS => ?_)
      refine lv_bipush (v := 8) hx hb dX1_markBound_42 (by decide) ?_
      refine lv_icmp_lt (tgt := 92) hx hb dX1_markBound_44 (by decide) (fun c44 => ?_) (fun c44 => ?_)
      · have h := o_t c44 h
        exact w_X1_markBound_92 CX hK hsz (hK30 := ih) spans bound y2 y3 y4 _ _ _ h hP hD hS (lv_sub hl [0, 1, 2, 3, 4] rfl)
      · have h := o_f c44 h
        refine lv_aload_n hx hb dX1_markBound_47 rfl (lv_at hl 1 rfl) ?_
        refine lv_iload hx hb dX1_markBound_48 (lv_at hl 4 rfl) ?_
        refine lv_iconst (v := 0) hx hb dX1_markBound_50 (by decide) ?_
        obtain ⟨z51, hz51, h⟩ := o_b h
        refine k_v (wn := (ws_X1_markBound cI cJ cB a0 a_bench a_body a_sum a_rowsOfPoints a_spans a_bound a_p1 a_p1_cells points pointsPut takenOut spans bound p1_rows p1_cells p1_cells_n)) (As := [.int y4, .int 0]) (rest := []) F hNw hK hP hD hS hA (c_X5_number l D cI cJ cB a_p1 a_p1_cells _ p1_rows p1_cells p1_cells_n y4 0 N hz51) wm_855 cv_X5_number [3, 4] [0, 1, 2] [0, 1, 2, 3, 4] (⟨rfl, rfl, rfl, by decide, rfl⟩ : Ix [3, 4] [0, 1, 2] [0, 1, 2, 3, 4] 5) rfl rfl rfl rfl rfl rfl ⟨rfl, rfl, by decide, by decide⟩ hl.1 rfl (Nat.le_of_ble_eq_true rfl) ⟨Nat.zero_le _, Nat.zero_le _⟩ dX1_markBound_51 (fun H locs hP hD hS => ?_)
        refine lv_iload_n hx hb dX1_markBound_54 rfl (lv_at hl 2 rfl) ?_
        refine lv_icmp_ne (tgt := 92) hx hb dX1_markBound_55 (by decide) (fun c55 => ?_) (fun c55 => ?_)
        · have h := o_f c55 h
          exact w_X1_markBound_92 CX hK hsz (hK30 := ih) spans bound y2 y3 y4 _ _ _ h hP hD hS (lv_sub hl [0, 1, 2, 3, 4] rfl)
        · have h := o_t c55 h
          refine lv_aload_n hx hb dX1_markBound_58 rfl (lv_at hl 0 rfl) ?_
          refine r_get F hK hP 0 4 rfl inW_X1 wm_215 rfl (by decide) rfl dX1_markBound_59 ?_
          refine lv_iload hx hb dX1_markBound_62 (lv_at hl 4 rfl) ?_
          obtain ⟨hi64, h⟩ := o_ix h
          refine va_iald hx hb hK hP 1 0 rfl rfl hi64 dX1_markBound_64 ?_
          refine lv_iconst (v := 0) hx hb dX1_markBound_65 (by decide) ?_
          refine va_mmax hx hb (F.2.2.1.trans hl.1.symm) hown (F.2.2.2.2 _ (q_in wm_919)) (F.2.2.2.2 _ (q_in wm_123)) (F.2.2.2.2 _ (q_in wm_75)) (F.2.2.2.2 _ (q_in wm_124)) (Nat.le_of_ble_eq_true rfl) (Nat.le_of_ble_eq_true rfl) (Nat.zero_le _) (Nat.zero_le _) dX1_markBound_66 ?_
          refine lv_istore (lv' := [(5, .int (jmax (spans y4.toNatClampNeg) 0)), (0, .ref a0), (1, .ref a_p1), (2, .int y2), (3, .int y3), (4, .int y4)]) hx hb dX1_markBound_69 hl (by decide) rfl (fun ls hl => ?_)
          exact w_X1_markBound_71 CX hK hsz (hK30 := ih) N spans bound y2 y3 y4 (jmax (spans y4.toNatClampNeg) 0) _ _ _ h hP hD hS (lv_sub hl [1, 2, 3, 4, 5, 0] rfl)
end G_X1_markBound
set_option maxHeartbeats 4000000 in
set_option maxRecDepth 100000 in
theorem c_X1_markBound (l : Launch) (D : va_G) (cI cJ cB : ClassId) (a0 a_bench a_body a_sum a_rowsOfPoints a_spans a_bound a_p1 a_p1_cells : Nat) (sz : Nat) (points : Int32) (pointsPut : Int32) (takenOut : Int32) (spans : Nat → Int32) (bound : Nat → Int32) (p1_rows : Int32) (p1_cells : Nat → Int32) (p1_cells_n : Nat) (x2 : Int32) (N : Nat) {z : (Nat → Int32) × (Nat → Int32)} (h : f_X1_markBound N spans bound p1_rows p1_cells p1_cells_n x2 = some z) : Mg l yX1_markBound cX1_markBound 6 none rm_X1_markBound D (ty0 cI cJ cB) [.ref a0, .ref a_p1, .int x2] sz (ws_X1_markBound cI cJ cB a0 a_bench a_body a_sum a_rowsOfPoints a_spans a_bound a_p1 a_p1_cells points pointsPut takenOut spans bound p1_rows p1_cells p1_cells_n) none (ws_X1_markBound cI cJ cB a0 a_bench a_body a_sum a_rowsOfPoints a_spans a_bound a_p1 a_p1_cells points pointsPut takenOut z.1 z.2 p1_rows p1_cells p1_cells_n) := by
  refine Mg.of (by decide) (Nat.le_of_ble_eq_true rfl) ?_
  intro p e s m below meth c CX hK hsz hP hD ls hl
  have CX : Cx p m c cX1_markBound 6 s ([.ref a0, .ref a_p1, .int x2] : List Value).toArray (Cond.code yX1_markBound cX1_markBound 6 none) RX1 meth none := CX
  obtain ⟨F, hr, hlk, hNw⟩ := id CX
  have hx := F.1
  have hb := F.2.1
  have hown := F.2.2.2.1
  have hl : lv_has ls 6 [(0, .ref a0), (1, .ref a_p1), (2, .int x2)] := hl
  have hS : va_S (va_A (ws_X1_markBound cI cJ cB a0 a_bench a_body a_sum a_rowsOfPoints a_spans a_bound a_p1 a_p1_cells points pointsPut takenOut spans bound p1_rows p1_cells p1_cells_n) sz) s.heap s.heap [] := va_S.rf
  have hA : ∀ q, s.heap.size ≤ q → va_A (ws_X1_markBound cI cJ cB a0 a_bench a_body a_sum a_rowsOfPoints a_spans a_bound a_p1 a_p1_cells points pointsPut takenOut spans bound p1_rows p1_cells p1_cells_n) sz q := fun q hq => Or.inr (hsz ▸ hq)
  unfold f_X1_markBound at h
  refine lv_aload_n hx hb dX1_markBound_0 rfl (lv_at hl 1 rfl) ?_
  refine r_getN F hNw hK hP 3 1 rfl inW_X5 nf_X1_54 rfl (by decide) rfl dX1_markBound_1 ?_
  refine lv_sipush (v := 400) hx hb dX1_markBound_4 (by decide) ?_
  refine va_mmin hx hb (F.2.2.1.trans hl.1.symm) hown (F.2.2.2.2 _ (q_in wm_913)) (F.2.2.2.2 _ (q_in wm_391)) (F.2.2.2.2 _ (q_in wm_75)) (F.2.2.2.2 _ (q_in wm_392)) (Nat.le_of_ble_eq_true rfl) (Nat.le_of_ble_eq_true rfl) (Nat.zero_le _) (Nat.zero_le _) dX1_markBound_7 ?_
  refine lv_istore_n (lv' := [(3, .int (jmin p1_rows 400)), (0, .ref a0), (1, .ref a_p1), (2, .int x2)]) hx hb dX1_markBound_10 rfl hl (by decide) rfl (fun ls hl => ?_)
  refine lv_aload_n hx hb dX1_markBound_11 rfl (lv_at hl 2 rfl) ?_
  refine lv_aload_n hx hb dX1_markBound_12 rfl (lv_at hl 1 rfl) ?_
  refine r_get F hK hP 0 4 rfl inW_X1 wm_215 rfl (by decide) rfl dX1_markBound_13 ?_
  obtain ⟨z16, hz16, h⟩ := o_b h
  refine k_v (wn := (ws_X1_markBound cI cJ cB a0 a_bench a_body a_sum a_rowsOfPoints a_spans a_bound a_p1 a_p1_cells points pointsPut takenOut z16 bound p1_rows p1_cells p1_cells_n)) (As := [.ref a_spans]) (rest := []) F hNw hK hP hD hS hA (c_X5_measure l D cI cJ cB a_p1 a_p1_cells a_spans _ p1_rows p1_cells p1_cells_n spans 400 N hz16) wm_914 cv_X5_measure [3, 4, 1] [0, 2] [0, 4, 1, 2, 3] (⟨rfl, rfl, rfl, by decide, rfl⟩ : Ix [3, 4, 1] [0, 2] [0, 4, 1, 2, 3] 5) rfl rfl rfl rfl rfl rfl ⟨rfl, rfl, by decide, by decide⟩ hl.1 rfl (Nat.le_of_ble_eq_true rfl) ⟨Nat.zero_le _, Nat.zero_le _⟩ dX1_markBound_16 (fun H locs hP hD hS => ?_)
  refine lv_aload_n hx hb dX1_markBound_19 rfl (lv_at hl 1 rfl) ?_
  refine r_get F hK hP 0 5 rfl inW_X1 wm_216 rfl (by decide) rfl dX1_markBound_20 ?_
  refine lv_iconst (v := 0) hx hb dX1_markBound_23 (by decide) ?_
  obtain ⟨z24, hz24, h⟩ := o_b h
  refine k_s (wn := (ws_X1_markBound cI cJ cB a0 a_bench a_body a_sum a_rowsOfPoints a_spans a_bound a_p1 a_p1_cells points pointsPut takenOut z16 z24 p1_rows p1_cells p1_cells_n)) (As := [.ref a_bound, .int 0]) (rest := []) F hNw hK hP hD hS hA (c_J7_fill_53178 l D cI cJ cB a_bound _ bound 400 0 N hz24) wm_918 cs_J7_fill_53178 [2] [0, 1, 3, 4] [0, 1, 4, 2, 3] (⟨rfl, rfl, rfl, by decide, rfl⟩ : Ix [2] [0, 1, 3, 4] [0, 1, 4, 2, 3] 5) rfl rfl rfl ⟨rfl, rfl, by decide, by decide⟩ hl.1 rfl (Nat.le_of_ble_eq_true rfl) ⟨Nat.zero_le _, Nat.zero_le _⟩ dX1_markBound_24 (fun H locs hP hD hS => ?_)
  refine lv_iconst (v := 0) hx hb dX1_markBound_27 (by decide) ?_
  refine lv_istore (lv' := [(4, .int 0), (3, .int (jmin p1_rows 400)), (0, .ref a0), (1, .ref a_p1), (2, .int x2)]) hx hb dX1_markBound_28 hl (by decide) rfl (fun ls hl => ?_)
  exact w_X1_markBound_30 CX hK hsz N z16 z24 x2 (jmin p1_rows 400) 0 _ _ _ h hP hD hS (lv_sub hl [2, 3, 4, 1, 0] rfl)
section G_X1_isSamePoint
abbrev ws_X1_isSamePoint (cI cJ cB : ClassId) (a0 a_bench a_body a_sum a_spans a_bound a_rowsOfPoints : Nat) (points : Int32) (pointsPut : Int32) (takenOut : Int32) (rowsOfPoints : Nat → Int32) : va_W := [(a0, .inr (3, [.ref a_bench, .ref a_body, .ref a_sum, .ref a_rowsOfPoints, .ref a_spans, .ref a_bound, .int points, .int pointsPut, .int takenOut])), (a_rowsOfPoints, .inl (cI, 4411, .inl rowsOfPoints))]
abbrev rm_X1_isSamePoint : Room := { frames := 0, cells := 0, slots := 0, locals := 0 }
def f_X1_isSamePoint_2 (N : Nat) : Nat → (Nat → Int32) → Int32 → Int32 → Int32 → Option (Int32)
  | 0 => fun _ _ _ _ => none
  | n + 1 => fun rowsOfPoints y1 y2 y3 => ifb (11 ≤ y3) (some 1) (ix (y1 + y3) 4411 (ix (y2 + y3) 4411 (ifb ((rowsOfPoints (y1 + y3).toNatClampNeg) = (rowsOfPoints (y2 + y3).toNatClampNeg)) (f_X1_isSamePoint_2 N n rowsOfPoints y1 y2 (y3 + 1)) (some 0))))
def f_X1_isSamePoint (N : Nat) (rowsOfPoints : Nat → Int32) (x1 : Int32) (x2 : Int32) : Option (Int32) := f_X1_isSamePoint_2 N N rowsOfPoints x1 x2 0
variable {p : Program} {l : Launch} {e : Env} {s : State} {m : MethodId} {below : List Frame} {meth : Method} {c : Code} {args : Array Value} {x0 : Cond} {D : va_G} {cI cJ cB : ClassId} {sz N : Nat} {ws0 : va_W} {a0 a_bench a_body a_sum a_spans a_bound a_rowsOfPoints : Nat} {points : Int32} {pointsPut : Int32} {takenOut : Int32} {rowsOfPoints : Nat → Int32} {z : Int32}
set_option maxHeartbeats 4000000 in
set_option maxRecDepth 100000 in
theorem w_X1_isSamePoint_2 (CX : Cx p m c cX1_isSamePoint 4 s args x0 RX1 meth (some .boolean)) (hK : va_K D vwCl (ty0 cI cJ cB) s) (hsz : s.heap.size = sz) : ∀ (n : Nat), ∀ (y1 : Int32) (y2 : Int32) (y3 : Int32) (H : Heap) (locs : List Loc) (ls : Array Slot), f_X1_isSamePoint_2 N n rowsOfPoints y1 y2 y3 = some z → va_P D vwCl (ws_X1_isSamePoint cI cJ cB a0 a_bench a_body a_sum a_spans a_bound a_rowsOfPoints points pointsPut takenOut rowsOfPoints) H → va_D (va_A ws0 sz) (ws_X1_isSamePoint cI cJ cB a0 a_bench a_body a_sum a_spans a_bound a_rowsOfPoints points pointsPut takenOut rowsOfPoints) → va_S (va_A ws0 sz) s.heap H locs → lv_has ls 4 [(0, .ref a0), (1, .int y1), (2, .int y2), (3, .int y3)] → W p l e rm_X1_isSamePoint s m args below meth c H locs 0 0 (MQ below (gQ D sz ws0 (ws_X1_isSamePoint cI cJ cB a0 a_bench a_body a_sum a_spans a_bound a_rowsOfPoints points pointsPut takenOut rowsOfPoints) (some (.int z))) args s 0 0 (va_A ws0 sz)) (F0 m 2 ls []) := by
  obtain ⟨F, hr, hlk, hNw⟩ := id CX
  have hx := F.1
  have hb := F.2.1
  have hown := F.2.2.2.1
  have hA : ∀ q, s.heap.size ≤ q → va_A ws0 sz q := fun q hq => Or.inr (hsz ▸ hq)
  intro n
  induction n with
  | zero =>
    intro y1 y2 y3 H locs ls h
    cases h
  | succ n ih =>
    intro y1 y2 y3 H locs ls h hP hD hS hl
    unfold f_X1_isSamePoint_2 at h
    refine lv_iload_n hx hb dX1_isSamePoint_2 rfl (lv_at hl 3 rfl) ?_
    refine lv_bipush (v := 11) hx hb dX1_isSamePoint_3 (by decide) ?_
    refine lv_icmp_ge (tgt := 35) hx hb dX1_isSamePoint_5 (by decide) (fun c5 => ?_) (fun c5 => ?_)
    · have h := o_t c5 h
      refine lv_iconst (v := 1) hx hb dX1_isSamePoint_35 (by decide) ?_
      obtain rfl := Option.some.inj h
      exact r_ret (v := 1) F hr hlk rfl dX1_isSamePoint_36 hsz hP hD hS
    · have h := o_f c5 h
      refine lv_aload_n hx hb dX1_isSamePoint_8 rfl (lv_at hl 0 rfl) ?_
      refine r_get F hK hP 0 3 rfl inW_X1 wm_214 rfl (by decide) rfl dX1_isSamePoint_9 ?_
      refine lv_iload_n hx hb dX1_isSamePoint_12 rfl (lv_at hl 1 rfl) ?_
      refine lv_iload_n hx hb dX1_isSamePoint_13 rfl (lv_at hl 3 rfl) ?_
      refine lv_iadd hx hb dX1_isSamePoint_14 ?_
      obtain ⟨hi15, h⟩ := o_ix h
      refine va_iald hx hb hK hP 1 0 rfl rfl hi15 dX1_isSamePoint_15 ?_
      refine lv_aload_n hx hb dX1_isSamePoint_16 rfl (lv_at hl 0 rfl) ?_
      refine r_get F hK hP 0 3 rfl inW_X1 wm_214 rfl (by decide) rfl dX1_isSamePoint_17 ?_
      refine lv_iload_n hx hb dX1_isSamePoint_20 rfl (lv_at hl 2 rfl) ?_
      refine lv_iload_n hx hb dX1_isSamePoint_21 rfl (lv_at hl 3 rfl) ?_
      refine lv_iadd hx hb dX1_isSamePoint_22 ?_
      obtain ⟨hi23, h⟩ := o_ix h
      refine va_iald hx hb hK hP 1 0 rfl rfl hi23 dX1_isSamePoint_23 ?_
      refine lv_icmp_eq (tgt := 29) hx hb dX1_isSamePoint_24 (by decide) (fun c24 => ?_) (fun c24 => ?_)
      · have h := o_t c24 h
        refine lv_iinc (v := y3 + 1) (lv' := [(3, .int (y3 + 1)), (0, .ref a0), (1, .int y1), (2, .int y2)]) hx hb dX1_isSamePoint_29 hl (k := 3) rfl rfl (by decide) rfl (fun ls hl => ?_)
        refine lv_goto (tgt := 2) hx hb dX1_isSamePoint_32 (by decide) ?_
        exact ih y1 y2 (y3 + 1) _ _ _ h hP hD hS (lv_sub hl [1, 2, 3, 0] rfl)
      · have h := o_f c24 h
        refine lv_iconst (v := 0) hx hb dX1_isSamePoint_27 (by decide) ?_
        obtain rfl := Option.some.inj h
        exact r_ret (v := 0) F hr hlk rfl dX1_isSamePoint_28 hsz hP hD hS
end G_X1_isSamePoint
set_option maxHeartbeats 4000000 in
set_option maxRecDepth 100000 in
theorem c_X1_isSamePoint (l : Launch) (D : va_G) (cI cJ cB : ClassId) (a0 a_bench a_body a_sum a_spans a_bound a_rowsOfPoints : Nat) (sz : Nat) (points : Int32) (pointsPut : Int32) (takenOut : Int32) (rowsOfPoints : Nat → Int32) (x1 : Int32) (x2 : Int32) (N : Nat) {z : Int32} (h : f_X1_isSamePoint N rowsOfPoints x1 x2 = some z) : Mg l yX1_isSamePoint cX1_isSamePoint 4 (some .boolean) rm_X1_isSamePoint D (ty0 cI cJ cB) [.ref a0, .int x1, .int x2] sz (ws_X1_isSamePoint cI cJ cB a0 a_bench a_body a_sum a_spans a_bound a_rowsOfPoints points pointsPut takenOut rowsOfPoints) (some (.int z)) (ws_X1_isSamePoint cI cJ cB a0 a_bench a_body a_sum a_spans a_bound a_rowsOfPoints points pointsPut takenOut rowsOfPoints) := by
  refine Mg.of (by decide) (Nat.le_of_ble_eq_true rfl) ?_
  intro p e s m below meth c CX hK hsz hP hD ls hl
  have CX : Cx p m c cX1_isSamePoint 4 s ([.ref a0, .int x1, .int x2] : List Value).toArray (Cond.code yX1_isSamePoint cX1_isSamePoint 4 (some .boolean)) RX1 meth (some .boolean) := CX
  obtain ⟨F, hr, hlk, hNw⟩ := id CX
  have hx := F.1
  have hb := F.2.1
  have hown := F.2.2.2.1
  have hl : lv_has ls 4 [(0, .ref a0), (1, .int x1), (2, .int x2)] := hl
  have hS : va_S (va_A (ws_X1_isSamePoint cI cJ cB a0 a_bench a_body a_sum a_spans a_bound a_rowsOfPoints points pointsPut takenOut rowsOfPoints) sz) s.heap s.heap [] := va_S.rf
  have hA : ∀ q, s.heap.size ≤ q → va_A (ws_X1_isSamePoint cI cJ cB a0 a_bench a_body a_sum a_spans a_bound a_rowsOfPoints points pointsPut takenOut rowsOfPoints) sz q := fun q hq => Or.inr (hsz ▸ hq)
  unfold f_X1_isSamePoint at h
  refine lv_iconst (v := 0) hx hb dX1_isSamePoint_0 (by decide) ?_
  refine lv_istore_n (lv' := [(3, .int 0), (0, .ref a0), (1, .int x1), (2, .int x2)]) hx hb dX1_isSamePoint_1 rfl hl (by decide) rfl (fun ls hl => ?_)
  exact w_X1_isSamePoint_2 CX hK hsz N x1 x2 0 _ _ _ h hP hD hS (lv_sub hl [1, 2, 3, 0] rfl)
section G_X1_replace
abbrev ws_X1_replace (cI cJ cB : ClassId) (a0 a_body a_spans a_bound a_bench a_bench_tree a_bench_tree_cells a_bench_starts a_bench_looses a_sum a_sum_numbers a_rowsOfPoints a_p1 a_p1_cells : Nat) (points : Int32) (pointsPut : Int32) (takenOut : Int32) (bench_parts : Int32) (bench_tree_rows : Int32) (bench_tree_cells : Nat → Int32) (bench_tree_cells_n : Nat) (bench_starts : Nat → Int32) (bench_looses : Nat → Int32) (sum_numbers : Nat → Int64) (rowsOfPoints : Nat → Int32) (p1_rows : Int32) (p1_cells : Nat → Int32) (p1_cells_n : Nat) : va_W := [(a0, .inr (3, [.ref a_bench, .ref a_body, .ref a_sum, .ref a_rowsOfPoints, .ref a_spans, .ref a_bound, .int points, .int pointsPut, .int takenOut])), (a_bench, .inr (2, [.ref a_bench_tree, .ref a_bench_starts, .ref a_bench_looses, .int bench_parts])), (a_bench_tree, .inr (7, [.ref a_bench_tree_cells, .int bench_tree_rows])), (a_bench_tree_cells, .inl (cI, bench_tree_cells_n, .inl bench_tree_cells)), (a_bench_starts, .inl (cI, 402, .inl bench_starts)), (a_bench_looses, .inl (cI, 402, .inl bench_looses)), (a_sum, .inr (6, [.ref a_sum_numbers])), (a_sum_numbers, .inl (cJ, 9, .inr (.inl sum_numbers))), (a_rowsOfPoints, .inl (cI, 4411, .inl rowsOfPoints)), (a_p1, .inr (7, [.ref a_p1_cells, .int p1_rows])), (a_p1_cells, .inl (cI, p1_cells_n, .inl p1_cells))]
abbrev rm_X1_replace : Room := { frames := 4, cells := 0, slots := 0, locals := 92 }
def f_X1_replace_13 (N : Nat) (bench_parts : Int32) (bench_tree_rows : Int32) (bench_tree_cells : Nat → Int32) (bench_tree_cells_n : Nat) (bench_starts : Nat → Int32) (bench_looses : Nat → Int32) (sum_numbers : Nat → Int64) (rowsOfPoints : Nat → Int32) (p1_rows : Int32) (p1_cells : Nat → Int32) (p1_cells_n : Nat) : Option (Int32 × (Int32) × (Int32) × (Nat → Int32) × (Nat → Int32) × (Nat → Int32) × (Nat → Int64)) := some (0, bench_parts, bench_tree_rows, bench_tree_cells, bench_starts, bench_looses, sum_numbers)
def f_X1_replace_76 (N : Nat) (bench_parts : Int32) (bench_tree_rows : Int32) (bench_tree_cells : Nat → Int32) (bench_tree_cells_n : Nat) (bench_starts : Nat → Int32) (bench_looses : Nat → Int32) (sum_numbers : Nat → Int64) (rowsOfPoints : Nat → Int32) (p1_rows : Int32) (p1_cells : Nat → Int32) (p1_cells_n : Nat) (s1 : Int32) : Option (Int32 × (Int32) × (Int32) × (Nat → Int32) × (Nat → Int32) × (Nat → Int32) × (Nat → Int64)) := (f_X0_push N bench_parts bench_tree_rows bench_tree_cells bench_tree_cells_n bench_starts bench_looses s1).bind (fun z76 => some (1, z76.1, z76.2.1, z76.2.2.1, z76.2.2.2.1, z76.2.2.2.2, sum_numbers))
def f_X1_replace_61 (N : Nat) (bench_parts : Int32) (bench_tree_rows : Int32) (bench_tree_cells : Nat → Int32) (bench_tree_cells_n : Nat) (bench_starts : Nat → Int32) (bench_looses : Nat → Int32) (sum_numbers : Nat → Int64) (rowsOfPoints : Nat → Int32) (p1_rows : Int32) (p1_cells : Nat → Int32) (p1_cells_n : Nat) (y6 : Int32) : Option (Int32 × (Int32) × (Int32) × (Nat → Int32) × (Nat → Int32) × (Nat → Int32) × (Nat → Int64)) := ifb (y6 = 3) (f_X1_replace_76 N bench_parts bench_tree_rows bench_tree_cells bench_tree_cells_n bench_starts bench_looses sum_numbers rowsOfPoints p1_rows p1_cells p1_cells_n 0) (f_X1_replace_76 N bench_parts bench_tree_rows bench_tree_cells bench_tree_cells_n bench_starts bench_looses sum_numbers rowsOfPoints p1_rows p1_cells p1_cells_n 1)
def f_X1_replace_145 (K120 : Int32 → Int32 → (Nat → Int32) → Nat → (Nat → Int32) → (Nat → Int32) → (Nat → Int64) → (Nat → Int32) → Int32 → (Nat → Int32) → Nat → Int32 → Int32 → Int32 → Int32 → Int64 → Int64 → Int32 → Option (Int32 × (Int32) × (Int32) × (Nat → Int32) × (Nat → Int32) × (Nat → Int32) × (Nat → Int64))) (N : Nat) (bench_parts : Int32) (bench_tree_rows : Int32) (bench_tree_cells : Nat → Int32) (bench_tree_cells_n : Nat) (bench_starts : Nat → Int32) (bench_looses : Nat → Int32) (sum_numbers : Nat → Int64) (rowsOfPoints : Nat → Int32) (p1_rows : Int32) (p1_cells : Nat → Int32) (p1_cells_n : Nat) (y2 : Int32) (y3 : Int32) (y5 : Int32) (y6 : Int32) (y7 : Int64) (y9 : Int64) (y11 : Int32) (s0 : Int64) : Option (Int32 × (Int32) × (Int32) × (Nat → Int32) × (Nat → Int32) × (Nat → Int32) × (Nat → Int64)) := ix ((y5 + 1) + y11) 4411 ((f_X4_add N sum_numbers y11 ((s0 * y9) + (y7 * ((rowsOfPoints ((y5 + 1) + y11).toNatClampNeg).toInt64)))).bind (fun z175 => K120 bench_parts bench_tree_rows bench_tree_cells bench_tree_cells_n bench_starts bench_looses z175 rowsOfPoints p1_rows p1_cells p1_cells_n y2 y3 y5 y6 y7 y9 (y11 + 1)))
def f_X1_replace_120 (N : Nat) : Nat → Int32 → Int32 → (Nat → Int32) → Nat → (Nat → Int32) → (Nat → Int32) → (Nat → Int64) → (Nat → Int32) → Int32 → (Nat → Int32) → Nat → Int32 → Int32 → Int32 → Int32 → Int64 → Int64 → Int32 → Option (Int32 × (Int32) × (Int32) × (Nat → Int32) × (Nat → Int32) × (Nat → Int32) × (Nat → Int64))
  | 0 => fun _ _ _ _ _ _ _ _ _ _ _ _ _ _ _ _ _ _ => none
  | n + 1 => fun bench_parts bench_tree_rows bench_tree_cells bench_tree_cells_n bench_starts bench_looses sum_numbers rowsOfPoints p1_rows p1_cells p1_cells_n y2 y3 y5 y6 y7 y9 y11 => ifb (9 ≤ y11) ((f_X4_settle N sum_numbers y6).bind (fun z190 => ifb (z190.1 = (-2)) (some (0, bench_parts, bench_tree_rows, bench_tree_cells, bench_starts, bench_looses, z190.2)) ((f_X0_pushSettled N bench_parts bench_tree_rows bench_tree_cells bench_tree_cells_n bench_starts bench_looses z190.2 z190.1).bind (fun z214 => some (1, z214.1, z214.2.1, z214.2.2.1, z214.2.2.2.1, z214.2.2.2.2, z190.2))))) (ifb (y11 = y3) (f_X1_replace_145 (f_X1_replace_120 N n) N bench_parts bench_tree_rows bench_tree_cells bench_tree_cells_n bench_starts bench_looses sum_numbers rowsOfPoints p1_rows p1_cells p1_cells_n y2 y3 y5 y6 y7 y9 y11 0) ((f_X5_number N p1_rows p1_cells p1_cells_n y2 y11).bind (fun z141 => f_X1_replace_145 (f_X1_replace_120 N n) N bench_parts bench_tree_rows bench_tree_cells bench_tree_cells_n bench_starts bench_looses sum_numbers rowsOfPoints p1_rows p1_cells p1_cells_n y2 y3 y5 y6 y7 y9 y11 z141.toInt64)))
def f_X1_replace_95 (N : Nat) (bench_parts : Int32) (bench_tree_rows : Int32) (bench_tree_cells : Nat → Int32) (bench_tree_cells_n : Nat) (bench_starts : Nat → Int32) (bench_looses : Nat → Int32) (sum_numbers : Nat → Int64) (rowsOfPoints : Nat → Int32) (p1_rows : Int32) (p1_cells : Nat → Int32) (p1_cells_n : Nat) (y2 : Int32) (y3 : Int32) (y5 : Int32) (y6 : Int32) (y7 : Int64) : Option (Int32 × (Int32) × (Int32) × (Nat → Int32) × (Nat → Int32) × (Nat → Int32) × (Nat → Int64)) := ix ((y5 + 1) + 9) 4411 ((f_X4_empty N sum_numbers).bind (fun z114 => f_X1_replace_120 N N bench_parts bench_tree_rows bench_tree_cells bench_tree_cells_n bench_starts bench_looses z114 rowsOfPoints p1_rows p1_cells p1_cells_n y2 y3 y5 y6 y7 ((rowsOfPoints ((y5 + 1) + 9).toNatClampNeg).toInt64) 0))
def f_X1_replace_93 (N : Nat) (bench_parts : Int32) (bench_tree_rows : Int32) (bench_tree_cells : Nat → Int32) (bench_tree_cells_n : Nat) (bench_starts : Nat → Int32) (bench_looses : Nat → Int32) (sum_numbers : Nat → Int64) (rowsOfPoints : Nat → Int32) (p1_rows : Int32) (p1_cells : Nat → Int32) (p1_cells_n : Nat) (y2 : Int32) (y3 : Int32) (y5 : Int32) (y7 : Int64) (s0 : Int32) : Option (Int32 × (Int32) × (Int32) × (Nat → Int32) × (Nat → Int32) × (Nat → Int32) × (Nat → Int64)) := f_X1_replace_95 N bench_parts bench_tree_rows bench_tree_cells bench_tree_cells_n bench_starts bench_looses sum_numbers rowsOfPoints p1_rows p1_cells p1_cells_n y2 y3 y5 s0 y7
def f_X1_replace (N : Nat) (bench_parts : Int32) (bench_tree_rows : Int32) (bench_tree_cells : Nat → Int32) (bench_tree_cells_n : Nat) (bench_starts : Nat → Int32) (bench_looses : Nat → Int32) (sum_numbers : Nat → Int64) (rowsOfPoints : Nat → Int32) (p1_rows : Int32) (p1_cells : Nat → Int32) (p1_cells_n : Nat) (x2 : Int32) (x3 : Int32) (x4 : Int32) : Option (Int32 × (Int32) × (Int32) × (Nat → Int32) × (Nat → Int32) × (Nat → Int32) × (Nat → Int64)) := ifb (x4 < 0) (f_X1_replace_13 N bench_parts bench_tree_rows bench_tree_cells bench_tree_cells_n bench_starts bench_looses sum_numbers rowsOfPoints p1_rows p1_cells p1_cells_n) (ifb (x4 ≤ 400) ((f_X5_kind N p1_rows p1_cells p1_cells_n x2).bind (fun z24 => (f_X5_number N p1_rows p1_cells p1_cells_n x2 x3).bind (fun z32 => ix (x4 * 11) 4411 (ifb ((rowsOfPoints (x4 * 11).toNatClampNeg) = 1) (ifb (z24 = 2) (f_X1_replace_61 N bench_parts bench_tree_rows bench_tree_cells bench_tree_cells_n bench_starts bench_looses sum_numbers rowsOfPoints p1_rows p1_cells p1_cells_n z24) (ifb (z24 = 3) (f_X1_replace_61 N bench_parts bench_tree_rows bench_tree_cells bench_tree_cells_n bench_starts bench_looses sum_numbers rowsOfPoints p1_rows p1_cells p1_cells_n z24) (ifb ((lg_cmp z32.toInt64 0) ≤ 0) (f_X1_replace_93 N bench_parts bench_tree_rows bench_tree_cells bench_tree_cells_n bench_starts bench_looses sum_numbers rowsOfPoints p1_rows p1_cells p1_cells_n x2 x3 (x4 * 11) z32.toInt64 5) (f_X1_replace_93 N bench_parts bench_tree_rows bench_tree_cells bench_tree_cells_n bench_starts bench_looses sum_numbers rowsOfPoints p1_rows p1_cells p1_cells_n x2 x3 (x4 * 11) z32.toInt64 4)))) (f_X1_replace_95 N bench_parts bench_tree_rows bench_tree_cells bench_tree_cells_n bench_starts bench_looses sum_numbers rowsOfPoints p1_rows p1_cells p1_cells_n x2 x3 (x4 * 11) z24 z32.toInt64))))) (f_X1_replace_13 N bench_parts bench_tree_rows bench_tree_cells bench_tree_cells_n bench_starts bench_looses sum_numbers rowsOfPoints p1_rows p1_cells p1_cells_n))
variable {p : Program} {l : Launch} {e : Env} {s : State} {m : MethodId} {below : List Frame} {meth : Method} {c : Code} {args : Array Value} {x0 : Cond} {D : va_G} {cI cJ cB : ClassId} {sz N : Nat} {ws0 : va_W} {a0 a_body a_spans a_bound a_bench a_bench_tree a_bench_tree_cells a_bench_starts a_bench_looses a_sum a_sum_numbers a_rowsOfPoints a_p1 a_p1_cells : Nat} {points : Int32} {pointsPut : Int32} {takenOut : Int32} {bench_tree_cells_n : Nat} {rowsOfPoints : Nat → Int32} {p1_rows : Int32} {p1_cells : Nat → Int32} {p1_cells_n : Nat} {z : Int32 × (Int32) × (Int32) × (Nat → Int32) × (Nat → Int32) × (Nat → Int32) × (Nat → Int64)}
set_option maxHeartbeats 4000000 in
set_option maxRecDepth 100000 in
theorem w_X1_replace_13 (CX : Cx p m c cX1_replace 14 s args x0 RX1 meth (some .boolean)) (hK : va_K D vwCl (ty0 cI cJ cB) s) (hsz : s.heap.size = sz) : ∀ (bench_parts : Int32) (bench_tree_rows : Int32) (bench_tree_cells : Nat → Int32) (bench_starts : Nat → Int32) (bench_looses : Nat → Int32) (sum_numbers : Nat → Int64) (H : Heap) (locs : List Loc) (ls : Array Slot), f_X1_replace_13 N bench_parts bench_tree_rows bench_tree_cells bench_tree_cells_n bench_starts bench_looses sum_numbers rowsOfPoints p1_rows p1_cells p1_cells_n = some z → va_P D vwCl (ws_X1_replace cI cJ cB a0 a_body a_spans a_bound a_bench a_bench_tree a_bench_tree_cells a_bench_starts a_bench_looses a_sum a_sum_numbers a_rowsOfPoints a_p1 a_p1_cells points pointsPut takenOut bench_parts bench_tree_rows bench_tree_cells bench_tree_cells_n bench_starts bench_looses sum_numbers rowsOfPoints p1_rows p1_cells p1_cells_n) H → va_D (va_A ws0 sz) (ws_X1_replace cI cJ cB a0 a_body a_spans a_bound a_bench a_bench_tree a_bench_tree_cells a_bench_starts a_bench_looses a_sum a_sum_numbers a_rowsOfPoints a_p1 a_p1_cells points pointsPut takenOut bench_parts bench_tree_rows bench_tree_cells bench_tree_cells_n bench_starts bench_looses sum_numbers rowsOfPoints p1_rows p1_cells p1_cells_n) → va_S (va_A ws0 sz) s.heap H locs → lv_has ls 14 [] → W p l e rm_X1_replace s m args below meth c H locs 0 0 (MQ below (gQ D sz ws0 (ws_X1_replace cI cJ cB a0 a_body a_spans a_bound a_bench a_bench_tree a_bench_tree_cells a_bench_starts a_bench_looses a_sum a_sum_numbers a_rowsOfPoints a_p1 a_p1_cells points pointsPut takenOut z.2.1 z.2.2.1 z.2.2.2.1 bench_tree_cells_n z.2.2.2.2.1 z.2.2.2.2.2.1 z.2.2.2.2.2.2 rowsOfPoints p1_rows p1_cells p1_cells_n) (some (.int z.1))) args s 0 0 (va_A ws0 sz)) (F0 m 13 ls []) := by
  obtain ⟨F, hr, hlk, hNw⟩ := id CX
  have hx := F.1
  have hb := F.2.1
  have hown := F.2.2.2.1
  have hA : ∀ q, s.heap.size ≤ q → va_A ws0 sz q := fun q hq => Or.inr (hsz ▸ hq)
  intro bench_parts bench_tree_rows bench_tree_cells bench_starts bench_looses sum_numbers H locs ls h hP hD hS hl
  unfold f_X1_replace_13 at h
  refine lv_iconst (v := 0) hx hb dX1_replace_13 (by decide) ?_
  obtain rfl := Option.some.inj h
  exact r_ret (v := 0) F hr hlk rfl dX1_replace_14 hsz hP hD hS
set_option maxHeartbeats 4000000 in
set_option maxRecDepth 100000 in
theorem w_X1_replace_76 (CX : Cx p m c cX1_replace 14 s args x0 RX1 meth (some .boolean)) (hK : va_K D vwCl (ty0 cI cJ cB) s) (hsz : s.heap.size = sz) : ∀ (bench_parts : Int32) (bench_tree_rows : Int32) (bench_tree_cells : Nat → Int32) (bench_starts : Nat → Int32) (bench_looses : Nat → Int32) (sum_numbers : Nat → Int64) (s1 : Int32) (H : Heap) (locs : List Loc) (ls : Array Slot), f_X1_replace_76 N bench_parts bench_tree_rows bench_tree_cells bench_tree_cells_n bench_starts bench_looses sum_numbers rowsOfPoints p1_rows p1_cells p1_cells_n s1 = some z → va_P D vwCl (ws_X1_replace cI cJ cB a0 a_body a_spans a_bound a_bench a_bench_tree a_bench_tree_cells a_bench_starts a_bench_looses a_sum a_sum_numbers a_rowsOfPoints a_p1 a_p1_cells points pointsPut takenOut bench_parts bench_tree_rows bench_tree_cells bench_tree_cells_n bench_starts bench_looses sum_numbers rowsOfPoints p1_rows p1_cells p1_cells_n) H → va_D (va_A ws0 sz) (ws_X1_replace cI cJ cB a0 a_body a_spans a_bound a_bench a_bench_tree a_bench_tree_cells a_bench_starts a_bench_looses a_sum a_sum_numbers a_rowsOfPoints a_p1 a_p1_cells points pointsPut takenOut bench_parts bench_tree_rows bench_tree_cells bench_tree_cells_n bench_starts bench_looses sum_numbers rowsOfPoints p1_rows p1_cells p1_cells_n) → va_S (va_A ws0 sz) s.heap H locs → lv_has ls 14 [] → W p l e rm_X1_replace s m args below meth c H locs 0 0 (MQ below (gQ D sz ws0 (ws_X1_replace cI cJ cB a0 a_body a_spans a_bound a_bench a_bench_tree a_bench_tree_cells a_bench_starts a_bench_looses a_sum a_sum_numbers a_rowsOfPoints a_p1 a_p1_cells points pointsPut takenOut z.2.1 z.2.2.1 z.2.2.2.1 bench_tree_cells_n z.2.2.2.2.1 z.2.2.2.2.2.1 z.2.2.2.2.2.2 rowsOfPoints p1_rows p1_cells p1_cells_n) (some (.int z.1))) args s 0 0 (va_A ws0 sz)) (F0 m 76 ls [.int s1, .ref a_bench]) := by
  obtain ⟨F, hr, hlk, hNw⟩ := id CX
  have hx := F.1
  have hb := F.2.1
  have hown := F.2.2.2.1
  have hA : ∀ q, s.heap.size ≤ q → va_A ws0 sz q := fun q hq => Or.inr (hsz ▸ hq)
  intro bench_parts bench_tree_rows bench_tree_cells bench_starts bench_looses sum_numbers s1 H locs ls h hP hD hS hl
  unfold f_X1_replace_76 at h
  obtain ⟨z76, hz76, h⟩ := o_b h
  refine k_v (wn := (ws_X1_replace cI cJ cB a0 a_body a_spans a_bound a_bench a_bench_tree a_bench_tree_cells a_bench_starts a_bench_looses a_sum a_sum_numbers a_rowsOfPoints a_p1 a_p1_cells points pointsPut takenOut z76.1 z76.2.1 z76.2.2.1 bench_tree_cells_n z76.2.2.2.1 z76.2.2.2.2 sum_numbers rowsOfPoints p1_rows p1_cells p1_cells_n)) (As := [.int s1]) (rest := []) F hNw hK hP hD hS hA (c_X0_push l D cI cJ cB a_bench a_bench_tree a_bench_tree_cells a_bench_starts a_bench_looses _ bench_parts bench_tree_rows bench_tree_cells bench_tree_cells_n bench_starts bench_looses s1 N hz76) wm_886 cv_X0_push [1, 2, 3, 4, 5] [0, 6, 7, 8, 9, 10] [0, 6, 7, 8, 9, 10, 1, 2, 3, 4, 5] (⟨rfl, rfl, rfl, by decide, rfl⟩ : Ix [1, 2, 3, 4, 5] [0, 6, 7, 8, 9, 10] [0, 6, 7, 8, 9, 10, 1, 2, 3, 4, 5] 11) rfl rfl rfl rfl rfl rfl ⟨rfl, rfl, by decide, by decide⟩ hl.1 rfl (Nat.le_of_ble_eq_true rfl) ⟨Nat.zero_le _, Nat.zero_le _⟩ dX1_replace_76 (fun H locs hP hD hS => ?_)
  refine lv_iconst (v := 1) hx hb dX1_replace_79 (by decide) ?_
  obtain rfl := Option.some.inj h
  exact r_ret (v := 1) F hr hlk rfl dX1_replace_80 hsz hP hD hS
set_option maxHeartbeats 4000000 in
set_option maxRecDepth 100000 in
theorem w_X1_replace_61 (CX : Cx p m c cX1_replace 14 s args x0 RX1 meth (some .boolean)) (hK : va_K D vwCl (ty0 cI cJ cB) s) (hsz : s.heap.size = sz) : ∀ (bench_parts : Int32) (bench_tree_rows : Int32) (bench_tree_cells : Nat → Int32) (bench_starts : Nat → Int32) (bench_looses : Nat → Int32) (sum_numbers : Nat → Int64) (y6 : Int32) (H : Heap) (locs : List Loc) (ls : Array Slot), f_X1_replace_61 N bench_parts bench_tree_rows bench_tree_cells bench_tree_cells_n bench_starts bench_looses sum_numbers rowsOfPoints p1_rows p1_cells p1_cells_n y6 = some z → va_P D vwCl (ws_X1_replace cI cJ cB a0 a_body a_spans a_bound a_bench a_bench_tree a_bench_tree_cells a_bench_starts a_bench_looses a_sum a_sum_numbers a_rowsOfPoints a_p1 a_p1_cells points pointsPut takenOut bench_parts bench_tree_rows bench_tree_cells bench_tree_cells_n bench_starts bench_looses sum_numbers rowsOfPoints p1_rows p1_cells p1_cells_n) H → va_D (va_A ws0 sz) (ws_X1_replace cI cJ cB a0 a_body a_spans a_bound a_bench a_bench_tree a_bench_tree_cells a_bench_starts a_bench_looses a_sum a_sum_numbers a_rowsOfPoints a_p1 a_p1_cells points pointsPut takenOut bench_parts bench_tree_rows bench_tree_cells bench_tree_cells_n bench_starts bench_looses sum_numbers rowsOfPoints p1_rows p1_cells p1_cells_n) → va_S (va_A ws0 sz) s.heap H locs → lv_has ls 14 [(0, .ref a0), (6, .int y6)] → W p l e rm_X1_replace s m args below meth c H locs 0 0 (MQ below (gQ D sz ws0 (ws_X1_replace cI cJ cB a0 a_body a_spans a_bound a_bench a_bench_tree a_bench_tree_cells a_bench_starts a_bench_looses a_sum a_sum_numbers a_rowsOfPoints a_p1 a_p1_cells points pointsPut takenOut z.2.1 z.2.2.1 z.2.2.2.1 bench_tree_cells_n z.2.2.2.2.1 z.2.2.2.2.2.1 z.2.2.2.2.2.2 rowsOfPoints p1_rows p1_cells p1_cells_n) (some (.int z.1))) args s 0 0 (va_A ws0 sz)) (F0 m 61 ls []) := by
  obtain ⟨F, hr, hlk, hNw⟩ := id CX
  have hx := F.1
  have hb := F.2.1
  have hown := F.2.2.2.1
  have hA : ∀ q, s.heap.size ≤ q → va_A ws0 sz q := fun q hq => Or.inr (hsz ▸ hq)
  intro bench_parts bench_tree_rows bench_tree_cells bench_starts bench_looses sum_numbers y6 H locs ls h hP hD hS hl
  unfold f_X1_replace_61 at h
  refine lv_aload_n hx hb dX1_replace_61 rfl (lv_at hl 0 rfl) ?_
  refine r_get F hK hP 0 0 rfl inW_X1 wm_210 rfl (by decide) rfl dX1_replace_62 ?_
  refine lv_iload hx hb dX1_replace_65 (lv_at hl 1 rfl) ?_
  refine lv_iconst (v := 3) hx hb dX1_replace_67 (by decide) ?_
  refine lv_icmp_ne (tgt := 75) hx hb dX1_replace_68 (by decide) (fun c68 => ?_) (fun c68 => ?_)
  · have h := o_f c68 h
    refine lv_iconst (v := 1) hx hb dX1_replace_75 (by decide) ?_
    exact w_X1_replace_76 CX hK hsz bench_parts bench_tree_rows bench_tree_cells bench_starts bench_looses sum_numbers 1 _ _ _ h hP hD hS (lv_sub hl [] rfl)
  · have h := o_t c68 h
    refine lv_iconst (v := 0) hx hb dX1_replace_71 (by decide) ?_
    refine lv_goto (tgt := 76) hx hb dX1_replace_72 (by decide) ?_
    exact w_X1_replace_76 CX hK hsz bench_parts bench_tree_rows bench_tree_cells bench_starts bench_looses sum_numbers 0 _ _ _ h hP hD hS (lv_sub hl [] rfl)
set_option maxHeartbeats 4000000 in
set_option maxRecDepth 100000 in
theorem w_X1_replace_145 (CX : Cx p m c cX1_replace 14 s args x0 RX1 meth (some .boolean)) (hK : va_K D vwCl (ty0 cI cJ cB) s) (hsz : s.heap.size = sz) {K120 : Int32 → Int32 → (Nat → Int32) → Nat → (Nat → Int32) → (Nat → Int32) → (Nat → Int64) → (Nat → Int32) → Int32 → (Nat → Int32) → Nat → Int32 → Int32 → Int32 → Int32 → Int64 → Int64 → Int32 → Option (Int32 × (Int32) × (Int32) × (Nat → Int32) × (Nat → Int32) × (Nat → Int32) × (Nat → Int64))} (hK120 : ∀ (bench_parts : Int32) (bench_tree_rows : Int32) (bench_tree_cells : Nat → Int32) (bench_starts : Nat → Int32) (bench_looses : Nat → Int32) (sum_numbers : Nat → Int64) (y2 : Int32) (y3 : Int32) (y5 : Int32) (y6 : Int32) (y7 : Int64) (y9 : Int64) (y11 : Int32) (H : Heap) (locs : List Loc) (ls : Array Slot), K120 bench_parts bench_tree_rows bench_tree_cells bench_tree_cells_n bench_starts bench_looses sum_numbers rowsOfPoints p1_rows p1_cells p1_cells_n y2 y3 y5 y6 y7 y9 y11 = some z → va_P D vwCl (ws_X1_replace cI cJ cB a0 a_body a_spans a_bound a_bench a_bench_tree a_bench_tree_cells a_bench_starts a_bench_looses a_sum a_sum_numbers a_rowsOfPoints a_p1 a_p1_cells points pointsPut takenOut bench_parts bench_tree_rows bench_tree_cells bench_tree_cells_n bench_starts bench_looses sum_numbers rowsOfPoints p1_rows p1_cells p1_cells_n) H → va_D (va_A ws0 sz) (ws_X1_replace cI cJ cB a0 a_body a_spans a_bound a_bench a_bench_tree a_bench_tree_cells a_bench_starts a_bench_looses a_sum a_sum_numbers a_rowsOfPoints a_p1 a_p1_cells points pointsPut takenOut bench_parts bench_tree_rows bench_tree_cells bench_tree_cells_n bench_starts bench_looses sum_numbers rowsOfPoints p1_rows p1_cells p1_cells_n) → va_S (va_A ws0 sz) s.heap H locs → lv_has ls 14 [(0, .ref a0), (1, .ref a_p1), (2, .int y2), (3, .int y3), (5, .int y5), (6, .int y6), (7, .long y7), (9, .long y9), (11, .int y11)] → W p l e rm_X1_replace s m args below meth c H locs 0 0 (MQ below (gQ D sz ws0 (ws_X1_replace cI cJ cB a0 a_body a_spans a_bound a_bench a_bench_tree a_bench_tree_cells a_bench_starts a_bench_looses a_sum a_sum_numbers a_rowsOfPoints a_p1 a_p1_cells points pointsPut takenOut z.2.1 z.2.2.1 z.2.2.2.1 bench_tree_cells_n z.2.2.2.2.1 z.2.2.2.2.2.1 z.2.2.2.2.2.2 rowsOfPoints p1_rows p1_cells p1_cells_n) (some (.int z.1))) args s 0 0 (va_A ws0 sz)) (F0 m 120 ls [])) : ∀ (bench_parts : Int32) (bench_tree_rows : Int32) (bench_tree_cells : Nat → Int32) (bench_starts : Nat → Int32) (bench_looses : Nat → Int32) (sum_numbers : Nat → Int64) (y2 : Int32) (y3 : Int32) (y5 : Int32) (y6 : Int32) (y7 : Int64) (y9 : Int64) (y11 : Int32) (s0 : Int64) (H : Heap) (locs : List Loc) (ls : Array Slot), f_X1_replace_145 K120 N bench_parts bench_tree_rows bench_tree_cells bench_tree_cells_n bench_starts bench_looses sum_numbers rowsOfPoints p1_rows p1_cells p1_cells_n y2 y3 y5 y6 y7 y9 y11 s0 = some z → va_P D vwCl (ws_X1_replace cI cJ cB a0 a_body a_spans a_bound a_bench a_bench_tree a_bench_tree_cells a_bench_starts a_bench_looses a_sum a_sum_numbers a_rowsOfPoints a_p1 a_p1_cells points pointsPut takenOut bench_parts bench_tree_rows bench_tree_cells bench_tree_cells_n bench_starts bench_looses sum_numbers rowsOfPoints p1_rows p1_cells p1_cells_n) H → va_D (va_A ws0 sz) (ws_X1_replace cI cJ cB a0 a_body a_spans a_bound a_bench a_bench_tree a_bench_tree_cells a_bench_starts a_bench_looses a_sum a_sum_numbers a_rowsOfPoints a_p1 a_p1_cells points pointsPut takenOut bench_parts bench_tree_rows bench_tree_cells bench_tree_cells_n bench_starts bench_looses sum_numbers rowsOfPoints p1_rows p1_cells p1_cells_n) → va_S (va_A ws0 sz) s.heap H locs → lv_has ls 14 [(0, .ref a0), (1, .ref a_p1), (2, .int y2), (3, .int y3), (5, .int y5), (6, .int y6), (7, .long y7), (9, .long y9), (11, .int y11)] → W p l e rm_X1_replace s m args below meth c H locs 0 0 (MQ below (gQ D sz ws0 (ws_X1_replace cI cJ cB a0 a_body a_spans a_bound a_bench a_bench_tree a_bench_tree_cells a_bench_starts a_bench_looses a_sum a_sum_numbers a_rowsOfPoints a_p1 a_p1_cells points pointsPut takenOut z.2.1 z.2.2.1 z.2.2.2.1 bench_tree_cells_n z.2.2.2.2.1 z.2.2.2.2.2.1 z.2.2.2.2.2.2 rowsOfPoints p1_rows p1_cells p1_cells_n) (some (.int z.1))) args s 0 0 (va_A ws0 sz)) (F0 m 145 ls [.long s0]) := by
  obtain ⟨F, hr, hlk, hNw⟩ := id CX
  have hx := F.1
  have hb := F.2.1
  have hown := F.2.2.2.1
  have hA : ∀ q, s.heap.size ≤ q → va_A ws0 sz q := fun q hq => Or.inr (hsz ▸ hq)
  intro bench_parts bench_tree_rows bench_tree_cells bench_starts bench_looses sum_numbers y2 y3 y5 y6 y7 y9 y11 s0 H locs ls h hP hD hS hl
  unfold f_X1_replace_145 at h
  refine lv_lstore (lv' := [(12, .long s0), (0, .ref a0), (1, .ref a_p1), (2, .int y2), (3, .int y3), (5, .int y5), (6, .int y6), (7, .long y7), (9, .long y9), (11, .int y11)]) hx hb dX1_replace_145 hl (by decide) rfl (fun ls hl => ?_)
  refine lv_aload_n hx hb dX1_replace_147 rfl (lv_at hl 1 rfl) ?_
  refine r_get F hK hP 0 2 rfl inW_X1 wm_213 rfl (by decide) rfl dX1_replace_148 ?_
  refine lv_iload hx hb dX1_replace_151 (lv_at hl 9 rfl) ?_
  refine lv_lload hx hb dX1_replace_153 (lv_at hl 0 rfl) ?_
  refine lv_lload hx hb dX1_replace_155 (lv_at hl 8 rfl) ?_
  refine lv_lmul hx hb dX1_replace_157 ?_
  refine lv_lload hx hb dX1_replace_158 (lv_at hl 7 rfl) ?_
  refine lv_aload_n hx hb dX1_replace_160 rfl (lv_at hl 1 rfl) ?_
  refine r_get F hK hP 0 3 rfl inW_X1 wm_214 rfl (by decide) rfl dX1_replace_161 ?_
  refine lv_iload hx hb dX1_replace_164 (lv_at hl 5 rfl) ?_
  refine lv_iconst (v := 1) hx hb dX1_replace_166 (by decide) ?_
  refine lv_iadd hx hb dX1_replace_167 ?_
  refine lv_iload hx hb dX1_replace_168 (lv_at hl 9 rfl) ?_
  refine lv_iadd hx hb dX1_replace_170 ?_
  obtain ⟨hi171, h⟩ := o_ix h
  refine va_iald hx hb hK hP 8 0 rfl rfl hi171 dX1_replace_171 ?_
  refine lv_i2l hx hb dX1_replace_172 rfl ?_
  refine lv_lmul hx hb dX1_replace_173 ?_
  refine lv_ladd hx hb dX1_replace_174 ?_
  obtain ⟨z175, hz175, h⟩ := o_b h
  refine k_v (wn := (ws_X1_replace cI cJ cB a0 a_body a_spans a_bound a_bench a_bench_tree a_bench_tree_cells a_bench_starts a_bench_looses a_sum a_sum_numbers a_rowsOfPoints a_p1 a_p1_cells points pointsPut takenOut bench_parts bench_tree_rows bench_tree_cells bench_tree_cells_n bench_starts bench_looses z175 rowsOfPoints p1_rows p1_cells p1_cells_n)) (As := [.int y11, .long ((s0 * y9) + (y7 * ((rowsOfPoints ((y5 + 1) + y11).toNatClampNeg).toInt64)))]) (rest := []) F hNw hK hP hD hS hA (c_X4_add l D cI cJ cB a_sum a_sum_numbers _ sum_numbers y11 ((s0 * y9) + (y7 * ((rowsOfPoints ((y5 + 1) + y11).toNatClampNeg).toInt64))) N hz175) wm_892 cv_X4_add [6, 7] [0, 1, 2, 3, 4, 5, 8, 9, 10] [0, 1, 2, 3, 4, 5, 9, 10, 6, 7, 8] (⟨rfl, rfl, rfl, by decide, rfl⟩ : Ix [6, 7] [0, 1, 2, 3, 4, 5, 8, 9, 10] [0, 1, 2, 3, 4, 5, 9, 10, 6, 7, 8] 11) rfl rfl rfl rfl rfl rfl ⟨rfl, rfl, by decide, by decide⟩ hl.1 rfl (Nat.le_of_ble_eq_true rfl) ⟨Nat.zero_le _, Nat.zero_le _⟩ dX1_replace_175 (fun H locs hP hD hS => ?_)
  refine lv_iinc (v := y11 + 1) (lv' := [(11, .int (y11 + 1)), (12, .long s0), (0, .ref a0), (1, .ref a_p1), (2, .int y2), (3, .int y3), (5, .int y5), (6, .int y6), (7, .long y7), (9, .long y9)]) hx hb dX1_replace_178 hl (k := 9) rfl rfl (by decide) rfl (fun ls hl => ?_)
  refine lv_goto (tgt := 120) hx hb dX1_replace_181 (by decide) ?_
  exact hK120 bench_parts bench_tree_rows bench_tree_cells bench_starts bench_looses z175 y2 y3 y5 y6 y7 y9 (y11 + 1) _ _ _ h hP hD hS (lv_sub hl [2, 3, 4, 5, 6, 7, 8, 9, 0] rfl)
set_option maxHeartbeats 4000000 in
set_option maxRecDepth 100000 in
theorem w_X1_replace_120 (CX : Cx p m c cX1_replace 14 s args x0 RX1 meth (some .boolean)) (hK : va_K D vwCl (ty0 cI cJ cB) s) (hsz : s.heap.size = sz) : ∀ (n : Nat), ∀ (bench_parts : Int32) (bench_tree_rows : Int32) (bench_tree_cells : Nat → Int32) (bench_starts : Nat → Int32) (bench_looses : Nat → Int32) (sum_numbers : Nat → Int64) (y2 : Int32) (y3 : Int32) (y5 : Int32) (y6 : Int32) (y7 : Int64) (y9 : Int64) (y11 : Int32) (H : Heap) (locs : List Loc) (ls : Array Slot), f_X1_replace_120 N n bench_parts bench_tree_rows bench_tree_cells bench_tree_cells_n bench_starts bench_looses sum_numbers rowsOfPoints p1_rows p1_cells p1_cells_n y2 y3 y5 y6 y7 y9 y11 = some z → va_P D vwCl (ws_X1_replace cI cJ cB a0 a_body a_spans a_bound a_bench a_bench_tree a_bench_tree_cells a_bench_starts a_bench_looses a_sum a_sum_numbers a_rowsOfPoints a_p1 a_p1_cells points pointsPut takenOut bench_parts bench_tree_rows bench_tree_cells bench_tree_cells_n bench_starts bench_looses sum_numbers rowsOfPoints p1_rows p1_cells p1_cells_n) H → va_D (va_A ws0 sz) (ws_X1_replace cI cJ cB a0 a_body a_spans a_bound a_bench a_bench_tree a_bench_tree_cells a_bench_starts a_bench_looses a_sum a_sum_numbers a_rowsOfPoints a_p1 a_p1_cells points pointsPut takenOut bench_parts bench_tree_rows bench_tree_cells bench_tree_cells_n bench_starts bench_looses sum_numbers rowsOfPoints p1_rows p1_cells p1_cells_n) → va_S (va_A ws0 sz) s.heap H locs → lv_has ls 14 [(0, .ref a0), (1, .ref a_p1), (2, .int y2), (3, .int y3), (5, .int y5), (6, .int y6), (7, .long y7), (9, .long y9), (11, .int y11)] → W p l e rm_X1_replace s m args below meth c H locs 0 0 (MQ below (gQ D sz ws0 (ws_X1_replace cI cJ cB a0 a_body a_spans a_bound a_bench a_bench_tree a_bench_tree_cells a_bench_starts a_bench_looses a_sum a_sum_numbers a_rowsOfPoints a_p1 a_p1_cells points pointsPut takenOut z.2.1 z.2.2.1 z.2.2.2.1 bench_tree_cells_n z.2.2.2.2.1 z.2.2.2.2.2.1 z.2.2.2.2.2.2 rowsOfPoints p1_rows p1_cells p1_cells_n) (some (.int z.1))) args s 0 0 (va_A ws0 sz)) (F0 m 120 ls []) := by
  obtain ⟨F, hr, hlk, hNw⟩ := id CX
  have hx := F.1
  have hb := F.2.1
  have hown := F.2.2.2.1
  have hA : ∀ q, s.heap.size ≤ q → va_A ws0 sz q := fun q hq => Or.inr (hsz ▸ hq)
  intro n
  induction n with
  | zero =>
    intro bench_parts bench_tree_rows bench_tree_cells bench_starts bench_looses sum_numbers y2 y3 y5 y6 y7 y9 y11 H locs ls h
    cases h
  | succ n ih =>
    intro bench_parts bench_tree_rows bench_tree_cells bench_starts bench_looses sum_numbers y2 y3 y5 y6 y7 y9 y11 H locs ls h hP hD hS hl
    unfold f_X1_replace_120 at h
    refine lv_iload hx hb dX1_replace_120 (lv_at hl 8 rfl) ?_
    refine lv_bipush (v := 9) hx hb dX1_replace_122 (by decide) ?_
    refine lv_icmp_ge (tgt := 184) hx hb dX1_replace_124 (by decide) (fun c124 => ?_) (fun c124 => ?_)
    · have h := o_t c124 h
      refine lv_aload_n hx hb dX1_replace_184 rfl (lv_at hl 0 rfl) ?_
      refine r_get F hK hP 0 2 rfl inW_X1 wm_213 rfl (by decide) rfl dX1_replace_185 ?_
      refine lv_iload hx hb dX1_replace_188 (lv_at hl 5 rfl) ?_
      obtain ⟨z190, hz190, h⟩ := o_b h
      refine k_v (wn := (ws_X1_replace cI cJ cB a0 a_body a_spans a_bound a_bench a_bench_tree a_bench_tree_cells a_bench_starts a_bench_looses a_sum a_sum_numbers a_rowsOfPoints a_p1 a_p1_cells points pointsPut takenOut bench_parts bench_tree_rows bench_tree_cells bench_tree_cells_n bench_starts bench_looses z190.2 rowsOfPoints p1_rows p1_cells p1_cells_n)) (As := [.int y6]) (rest := []) F hNw hK hP hD hS hA (c_X4_settle l D cI cJ cB a_sum a_sum_numbers _ sum_numbers y6 N hz190) wm_893 cv_X4_settle [6, 7] [0, 1, 2, 3, 4, 5, 8, 9, 10] [0, 1, 2, 3, 4, 5, 9, 10, 6, 7, 8] (⟨rfl, rfl, rfl, by decide, rfl⟩ : Ix [6, 7] [0, 1, 2, 3, 4, 5, 8, 9, 10] [0, 1, 2, 3, 4, 5, 9, 10, 6, 7, 8] 11) rfl rfl rfl rfl rfl rfl ⟨rfl, rfl, by decide, by decide⟩ hl.1 rfl (Nat.le_of_ble_eq_true rfl) ⟨Nat.zero_le _, Nat.zero_le _⟩ dX1_replace_190 (fun H locs hP hD hS => ?_)
      refine lv_istore (lv' := [(11, .int z190.1), (0, .ref a0), (1, .ref a_p1), (2, .int y2), (3, .int y3), (5, .int y5), (6, .int y6), (7, .long y7), (9, .long y9)]) hx hb dX1_replace_193 hl (by decide) rfl (fun ls hl => ?_)
      refine lv_iload hx hb dX1_replace_195 (lv_at hl 0 rfl) ?_
      refine lv_bipush (v := (-2)) hx hb dX1_replace_197 (by decide) ?_
      refine lv_icmp_ne (tgt := 204) hx hb dX1_replace_199 (by decide) (fun c199 => ?_) (fun c199 => ?_)
      · have h := o_f c199 h
        refine lv_aload_n hx hb dX1_replace_204 rfl (lv_at hl 1 rfl) ?_
        refine r_get F hK hP 0 0 rfl inW_X1 wm_210 rfl (by decide) rfl dX1_replace_205 ?_
        refine lv_aload_n hx hb dX1_replace_208 rfl (lv_at hl 1 rfl) ?_
        refine r_get F hK hP 0 2 rfl inW_X1 wm_213 rfl (by decide) rfl dX1_replace_209 ?_
        refine lv_iload hx hb dX1_replace_212 (lv_at hl 0 rfl) ?_
        obtain ⟨z214, hz214, h⟩ := o_b h
        refine k_v (wn := (ws_X1_replace cI cJ cB a0 a_body a_spans a_bound a_bench a_bench_tree a_bench_tree_cells a_bench_starts a_bench_looses a_sum a_sum_numbers a_rowsOfPoints a_p1 a_p1_cells points pointsPut takenOut z214.1 z214.2.1 z214.2.2.1 bench_tree_cells_n z214.2.2.2.1 z214.2.2.2.2 z190.2 rowsOfPoints p1_rows p1_cells p1_cells_n)) (As := [.ref a_sum, .int z190.1]) (rest := []) F hNw hK hP hD hS hA (c_X0_pushSettled l D cI cJ cB a_bench a_bench_tree a_bench_tree_cells a_bench_starts a_bench_looses a_sum a_sum_numbers _ bench_parts bench_tree_rows bench_tree_cells bench_tree_cells_n bench_starts bench_looses z190.2 z190.1 N hz214) wm_894 cv_X0_pushSettled [1, 2, 3, 4, 5, 6, 7] [0, 8, 9, 10] [0, 4, 5, 6, 7, 8, 9, 10, 1, 2, 3] (⟨rfl, rfl, rfl, by decide, rfl⟩ : Ix [1, 2, 3, 4, 5, 6, 7] [0, 8, 9, 10] [0, 4, 5, 6, 7, 8, 9, 10, 1, 2, 3] 11) rfl rfl rfl rfl rfl rfl ⟨rfl, rfl, by decide, by decide⟩ hl.1 rfl (Nat.le_of_ble_eq_true rfl) ⟨Nat.zero_le _, Nat.zero_le _⟩ dX1_replace_214 (fun H locs hP hD hS => ?_)
        refine lv_iconst (v := 1) hx hb dX1_replace_217 (by decide) ?_
        obtain rfl := Option.some.inj h
        exact r_ret (v := 1) F hr hlk rfl dX1_replace_218 hsz hP hD hS
      · have h := o_t c199 h
        refine lv_iconst (v := 0) hx hb dX1_replace_202 (by decide) ?_
        obtain rfl := Option.some.inj h
        exact r_ret (v := 0) F hr hlk rfl dX1_replace_203 hsz hP hD hS
    · have h := o_f c124 h
      refine lv_iload hx hb dX1_replace_127 (lv_at hl 8 rfl) ?_
      refine lv_iload_n hx hb dX1_replace_129 rfl (lv_at hl 3 rfl) ?_
      refine lv_icmp_ne (tgt := 137) hx hb dX1_replace_130 (by decide) (fun c130 => ?_) (fun c130 => ?_)
      · have h := o_f c130 h
        refine lv_aload_n hx hb dX1_replace_137 rfl (lv_at hl 1 rfl) ?_
        refine lv_iload_n hx hb dX1_replace_138 rfl (lv_at hl 2 rfl) ?_
        refine lv_iload hx hb dX1_replace_139 (lv_at hl 8 rfl) ?_
        obtain ⟨z141, hz141, h⟩ := o_b h
        refine k_v (wn := (ws_X1_replace cI cJ cB a0 a_body a_spans a_bound a_bench a_bench_tree a_bench_tree_cells a_bench_starts a_bench_looses a_sum a_sum_numbers a_rowsOfPoints a_p1 a_p1_cells points pointsPut takenOut bench_parts bench_tree_rows bench_tree_cells bench_tree_cells_n bench_starts bench_looses sum_numbers rowsOfPoints p1_rows p1_cells p1_cells_n)) (As := [.int y2, .int y11]) (rest := []) F hNw hK hP hD hS hA (c_X5_number l D cI cJ cB a_p1 a_p1_cells _ p1_rows p1_cells p1_cells_n y2 y11 N hz141) wm_855 cv_X5_number [9, 10] [0, 1, 2, 3, 4, 5, 6, 7, 8] [0, 1, 2, 3, 4, 5, 6, 7, 8, 9, 10] (⟨rfl, rfl, rfl, by decide, rfl⟩ : Ix [9, 10] [0, 1, 2, 3, 4, 5, 6, 7, 8] [0, 1, 2, 3, 4, 5, 6, 7, 8, 9, 10] 11) rfl rfl rfl rfl rfl rfl ⟨rfl, rfl, by decide, by decide⟩ hl.1 rfl (Nat.le_of_ble_eq_true rfl) ⟨Nat.zero_le _, Nat.zero_le _⟩ dX1_replace_141 (fun H locs hP hD hS => ?_)
        refine lv_i2l hx hb dX1_replace_144 rfl ?_
        exact w_X1_replace_145 CX hK hsz (hK120 := ih) bench_parts bench_tree_rows bench_tree_cells bench_starts bench_looses sum_numbers y2 y3 y5 y6 y7 y9 y11 z141.toInt64 _ _ _ h hP hD hS (lv_sub hl [0, 1, 2, 3, 4, 5, 6, 7, 8] rfl)
      · have h := o_t c130 h
        refine lv_lconst (v := 0) hx hb dX1_replace_133 (by decide) ?_
        refine lv_goto (tgt := 145) hx hb dX1_replace_134 (by decide) ?_
        exact w_X1_replace_145 CX hK hsz (hK120 := ih) bench_parts bench_tree_rows bench_tree_cells bench_starts bench_looses sum_numbers y2 y3 y5 y6 y7 y9 y11 0 _ _ _ h hP hD hS (lv_sub hl [0, 1, 2, 3, 4, 5, 6, 7, 8] rfl)
set_option maxHeartbeats 4000000 in
set_option maxRecDepth 100000 in
theorem w_X1_replace_95 (CX : Cx p m c cX1_replace 14 s args x0 RX1 meth (some .boolean)) (hK : va_K D vwCl (ty0 cI cJ cB) s) (hsz : s.heap.size = sz) : ∀ (bench_parts : Int32) (bench_tree_rows : Int32) (bench_tree_cells : Nat → Int32) (bench_starts : Nat → Int32) (bench_looses : Nat → Int32) (sum_numbers : Nat → Int64) (y2 : Int32) (y3 : Int32) (y5 : Int32) (y6 : Int32) (y7 : Int64) (H : Heap) (locs : List Loc) (ls : Array Slot), f_X1_replace_95 N bench_parts bench_tree_rows bench_tree_cells bench_tree_cells_n bench_starts bench_looses sum_numbers rowsOfPoints p1_rows p1_cells p1_cells_n y2 y3 y5 y6 y7 = some z → va_P D vwCl (ws_X1_replace cI cJ cB a0 a_body a_spans a_bound a_bench a_bench_tree a_bench_tree_cells a_bench_starts a_bench_looses a_sum a_sum_numbers a_rowsOfPoints a_p1 a_p1_cells points pointsPut takenOut bench_parts bench_tree_rows bench_tree_cells bench_tree_cells_n bench_starts bench_looses sum_numbers rowsOfPoints p1_rows p1_cells p1_cells_n) H → va_D (va_A ws0 sz) (ws_X1_replace cI cJ cB a0 a_body a_spans a_bound a_bench a_bench_tree a_bench_tree_cells a_bench_starts a_bench_looses a_sum a_sum_numbers a_rowsOfPoints a_p1 a_p1_cells points pointsPut takenOut bench_parts bench_tree_rows bench_tree_cells bench_tree_cells_n bench_starts bench_looses sum_numbers rowsOfPoints p1_rows p1_cells p1_cells_n) → va_S (va_A ws0 sz) s.heap H locs → lv_has ls 14 [(0, .ref a0), (1, .ref a_p1), (2, .int y2), (3, .int y3), (5, .int y5), (6, .int y6), (7, .long y7)] → W p l e rm_X1_replace s m args below meth c H locs 0 0 (MQ below (gQ D sz ws0 (ws_X1_replace cI cJ cB a0 a_body a_spans a_bound a_bench a_bench_tree a_bench_tree_cells a_bench_starts a_bench_looses a_sum a_sum_numbers a_rowsOfPoints a_p1 a_p1_cells points pointsPut takenOut z.2.1 z.2.2.1 z.2.2.2.1 bench_tree_cells_n z.2.2.2.2.1 z.2.2.2.2.2.1 z.2.2.2.2.2.2 rowsOfPoints p1_rows p1_cells p1_cells_n) (some (.int z.1))) args s 0 0 (va_A ws0 sz)) (F0 m 95 ls []) := by
  obtain ⟨F, hr, hlk, hNw⟩ := id CX
  have hx := F.1
  have hb := F.2.1
  have hown := F.2.2.2.1
  have hA : ∀ q, s.heap.size ≤ q → va_A ws0 sz q := fun q hq => Or.inr (hsz ▸ hq)
  intro bench_parts bench_tree_rows bench_tree_cells bench_starts bench_looses sum_numbers y2 y3 y5 y6 y7 H locs ls h hP hD hS hl
  unfold f_X1_replace_95 at h
  refine lv_aload_n hx hb dX1_replace_95 rfl (lv_at hl 0 rfl) ?_
  refine r_get F hK hP 0 3 rfl inW_X1 wm_214 rfl (by decide) rfl dX1_replace_96 ?_
  refine lv_iload hx hb dX1_replace_99 (lv_at hl 4 rfl) ?_
  refine lv_iconst (v := 1) hx hb dX1_replace_101 (by decide) ?_
  refine lv_iadd hx hb dX1_replace_102 ?_
  refine lv_bipush (v := 9) hx hb dX1_replace_103 (by decide) ?_
  refine lv_iadd hx hb dX1_replace_105 ?_
  obtain ⟨hi106, h⟩ := o_ix h
  refine va_iald hx hb hK hP 8 0 rfl rfl hi106 dX1_replace_106 ?_
  refine lv_i2l hx hb dX1_replace_107 rfl ?_
  refine lv_lstore (lv' := [(9, .long ((rowsOfPoints ((y5 + 1) + 9).toNatClampNeg).toInt64)), (0, .ref a0), (1, .ref a_p1), (2, .int y2), (3, .int y3), (5, .int y5), (6, .int y6), (7, .long y7)]) hx hb dX1_replace_108 hl (by decide) rfl (fun ls hl => ?_)
  refine lv_aload_n hx hb dX1_replace_110 rfl (lv_at hl 1 rfl) ?_
  refine r_get F hK hP 0 2 rfl inW_X1 wm_213 rfl (by decide) rfl dX1_replace_111 ?_
  obtain ⟨z114, hz114, h⟩ := o_b h
  refine k_v (wn := (ws_X1_replace cI cJ cB a0 a_body a_spans a_bound a_bench a_bench_tree a_bench_tree_cells a_bench_starts a_bench_looses a_sum a_sum_numbers a_rowsOfPoints a_p1 a_p1_cells points pointsPut takenOut bench_parts bench_tree_rows bench_tree_cells bench_tree_cells_n bench_starts bench_looses z114 rowsOfPoints p1_rows p1_cells p1_cells_n)) (As := []) (rest := []) F hNw hK hP hD hS hA (c_X4_empty l D cI cJ cB a_sum a_sum_numbers _ sum_numbers N hz114) wm_891 cv_X4_empty [6, 7] [0, 1, 2, 3, 4, 5, 8, 9, 10] [0, 1, 2, 3, 4, 5, 9, 10, 6, 7, 8] (⟨rfl, rfl, rfl, by decide, rfl⟩ : Ix [6, 7] [0, 1, 2, 3, 4, 5, 8, 9, 10] [0, 1, 2, 3, 4, 5, 9, 10, 6, 7, 8] 11) rfl rfl rfl rfl rfl rfl ⟨rfl, rfl, by decide, by decide⟩ hl.1 rfl (Nat.le_of_ble_eq_true rfl) ⟨Nat.zero_le _, Nat.zero_le _⟩ dX1_replace_114 (fun H locs hP hD hS => ?_)
  refine lv_iconst (v := 0) hx hb dX1_replace_117 (by decide) ?_
  refine lv_istore (lv' := [(11, .int 0), (9, .long ((rowsOfPoints ((y5 + 1) + 9).toNatClampNeg).toInt64)), (0, .ref a0), (1, .ref a_p1), (2, .int y2), (3, .int y3), (5, .int y5), (6, .int y6), (7, .long y7)]) hx hb dX1_replace_118 hl (by decide) rfl (fun ls hl => ?_)
  exact w_X1_replace_120 CX hK hsz N bench_parts bench_tree_rows bench_tree_cells bench_starts bench_looses z114 y2 y3 y5 y6 y7 ((rowsOfPoints ((y5 + 1) + 9).toNatClampNeg).toInt64) 0 _ _ _ h hP hD hS (lv_sub hl [2, 3, 4, 5, 6, 7, 8, 1, 0] rfl)
set_option maxHeartbeats 4000000 in
set_option maxRecDepth 100000 in
theorem w_X1_replace_93 (CX : Cx p m c cX1_replace 14 s args x0 RX1 meth (some .boolean)) (hK : va_K D vwCl (ty0 cI cJ cB) s) (hsz : s.heap.size = sz) : ∀ (bench_parts : Int32) (bench_tree_rows : Int32) (bench_tree_cells : Nat → Int32) (bench_starts : Nat → Int32) (bench_looses : Nat → Int32) (sum_numbers : Nat → Int64) (y2 : Int32) (y3 : Int32) (y5 : Int32) (y7 : Int64) (s0 : Int32) (H : Heap) (locs : List Loc) (ls : Array Slot), f_X1_replace_93 N bench_parts bench_tree_rows bench_tree_cells bench_tree_cells_n bench_starts bench_looses sum_numbers rowsOfPoints p1_rows p1_cells p1_cells_n y2 y3 y5 y7 s0 = some z → va_P D vwCl (ws_X1_replace cI cJ cB a0 a_body a_spans a_bound a_bench a_bench_tree a_bench_tree_cells a_bench_starts a_bench_looses a_sum a_sum_numbers a_rowsOfPoints a_p1 a_p1_cells points pointsPut takenOut bench_parts bench_tree_rows bench_tree_cells bench_tree_cells_n bench_starts bench_looses sum_numbers rowsOfPoints p1_rows p1_cells p1_cells_n) H → va_D (va_A ws0 sz) (ws_X1_replace cI cJ cB a0 a_body a_spans a_bound a_bench a_bench_tree a_bench_tree_cells a_bench_starts a_bench_looses a_sum a_sum_numbers a_rowsOfPoints a_p1 a_p1_cells points pointsPut takenOut bench_parts bench_tree_rows bench_tree_cells bench_tree_cells_n bench_starts bench_looses sum_numbers rowsOfPoints p1_rows p1_cells p1_cells_n) → va_S (va_A ws0 sz) s.heap H locs → lv_has ls 14 [(0, .ref a0), (1, .ref a_p1), (2, .int y2), (3, .int y3), (5, .int y5), (7, .long y7)] → W p l e rm_X1_replace s m args below meth c H locs 0 0 (MQ below (gQ D sz ws0 (ws_X1_replace cI cJ cB a0 a_body a_spans a_bound a_bench a_bench_tree a_bench_tree_cells a_bench_starts a_bench_looses a_sum a_sum_numbers a_rowsOfPoints a_p1 a_p1_cells points pointsPut takenOut z.2.1 z.2.2.1 z.2.2.2.1 bench_tree_cells_n z.2.2.2.2.1 z.2.2.2.2.2.1 z.2.2.2.2.2.2 rowsOfPoints p1_rows p1_cells p1_cells_n) (some (.int z.1))) args s 0 0 (va_A ws0 sz)) (F0 m 93 ls [.int s0]) := by
  obtain ⟨F, hr, hlk, hNw⟩ := id CX
  have hx := F.1
  have hb := F.2.1
  have hown := F.2.2.2.1
  have hA : ∀ q, s.heap.size ≤ q → va_A ws0 sz q := fun q hq => Or.inr (hsz ▸ hq)
  intro bench_parts bench_tree_rows bench_tree_cells bench_starts bench_looses sum_numbers y2 y3 y5 y7 s0 H locs ls h hP hD hS hl
  unfold f_X1_replace_93 at h
  refine lv_istore (lv' := [(6, .int s0), (0, .ref a0), (1, .ref a_p1), (2, .int y2), (3, .int y3), (5, .int y5), (7, .long y7)]) hx hb dX1_replace_93 hl (by decide) rfl (fun ls hl => ?_)
  exact w_X1_replace_95 CX hK hsz bench_parts bench_tree_rows bench_tree_cells bench_starts bench_looses sum_numbers y2 y3 y5 s0 y7 _ _ _ h hP hD hS (lv_sub hl [1, 2, 3, 4, 5, 0, 6] rfl)
end G_X1_replace
set_option maxHeartbeats 4000000 in
set_option maxRecDepth 100000 in
theorem c_X1_replace (l : Launch) (D : va_G) (cI cJ cB : ClassId) (a0 a_body a_spans a_bound a_bench a_bench_tree a_bench_tree_cells a_bench_starts a_bench_looses a_sum a_sum_numbers a_rowsOfPoints a_p1 a_p1_cells : Nat) (sz : Nat) (points : Int32) (pointsPut : Int32) (takenOut : Int32) (bench_parts : Int32) (bench_tree_rows : Int32) (bench_tree_cells : Nat → Int32) (bench_tree_cells_n : Nat) (bench_starts : Nat → Int32) (bench_looses : Nat → Int32) (sum_numbers : Nat → Int64) (rowsOfPoints : Nat → Int32) (p1_rows : Int32) (p1_cells : Nat → Int32) (p1_cells_n : Nat) (x2 : Int32) (x3 : Int32) (x4 : Int32) (N : Nat) {z : Int32 × (Int32) × (Int32) × (Nat → Int32) × (Nat → Int32) × (Nat → Int32) × (Nat → Int64)} (h : f_X1_replace N bench_parts bench_tree_rows bench_tree_cells bench_tree_cells_n bench_starts bench_looses sum_numbers rowsOfPoints p1_rows p1_cells p1_cells_n x2 x3 x4 = some z) : Mg l yX1_replace cX1_replace 14 (some .boolean) rm_X1_replace D (ty0 cI cJ cB) [.ref a0, .ref a_p1, .int x2, .int x3, .int x4] sz (ws_X1_replace cI cJ cB a0 a_body a_spans a_bound a_bench a_bench_tree a_bench_tree_cells a_bench_starts a_bench_looses a_sum a_sum_numbers a_rowsOfPoints a_p1 a_p1_cells points pointsPut takenOut bench_parts bench_tree_rows bench_tree_cells bench_tree_cells_n bench_starts bench_looses sum_numbers rowsOfPoints p1_rows p1_cells p1_cells_n) (some (.int z.1)) (ws_X1_replace cI cJ cB a0 a_body a_spans a_bound a_bench a_bench_tree a_bench_tree_cells a_bench_starts a_bench_looses a_sum a_sum_numbers a_rowsOfPoints a_p1 a_p1_cells points pointsPut takenOut z.2.1 z.2.2.1 z.2.2.2.1 bench_tree_cells_n z.2.2.2.2.1 z.2.2.2.2.2.1 z.2.2.2.2.2.2 rowsOfPoints p1_rows p1_cells p1_cells_n) := by
  refine Mg.of (by decide) (Nat.le_of_ble_eq_true rfl) ?_
  intro p e s m below meth c CX hK hsz hP hD ls hl
  have CX : Cx p m c cX1_replace 14 s ([.ref a0, .ref a_p1, .int x2, .int x3, .int x4] : List Value).toArray (Cond.code yX1_replace cX1_replace 14 (some .boolean)) RX1 meth (some .boolean) := CX
  obtain ⟨F, hr, hlk, hNw⟩ := id CX
  have hx := F.1
  have hb := F.2.1
  have hown := F.2.2.2.1
  have hl : lv_has ls 14 [(0, .ref a0), (1, .ref a_p1), (2, .int x2), (3, .int x3), (4, .int x4)] := hl
  have hS : va_S (va_A (ws_X1_replace cI cJ cB a0 a_body a_spans a_bound a_bench a_bench_tree a_bench_tree_cells a_bench_starts a_bench_looses a_sum a_sum_numbers a_rowsOfPoints a_p1 a_p1_cells points pointsPut takenOut bench_parts bench_tree_rows bench_tree_cells bench_tree_cells_n bench_starts bench_looses sum_numbers rowsOfPoints p1_rows p1_cells p1_cells_n) sz) s.heap s.heap [] := va_S.rf
  have hA : ∀ q, s.heap.size ≤ q → va_A (ws_X1_replace cI cJ cB a0 a_body a_spans a_bound a_bench a_bench_tree a_bench_tree_cells a_bench_starts a_bench_looses a_sum a_sum_numbers a_rowsOfPoints a_p1 a_p1_cells points pointsPut takenOut bench_parts bench_tree_rows bench_tree_cells bench_tree_cells_n bench_starts bench_looses sum_numbers rowsOfPoints p1_rows p1_cells p1_cells_n) sz q := fun q hq => Or.inr (hsz ▸ hq)
  unfold f_X1_replace at h
  refine lv_iload hx hb dX1_replace_0 (lv_at hl 4 rfl) ?_
  refine lv_if_lt (tgt := 13) hx hb dX1_replace_2 (by decide) (fun c2 => ?_) (fun c2 => ?_)
  · have h := o_t c2 h
    exact w_X1_replace_13 CX hK hsz bench_parts bench_tree_rows bench_tree_cells bench_starts bench_looses sum_numbers _ _ _ h hP hD hS (lv_sub hl [] rfl)
  · have h := o_f c2 h
    refine lv_iload hx hb dX1_replace_5 (lv_at hl 4 rfl) ?_
    refine lv_sipush (v := 400) hx hb dX1_replace_7 (by decide) ?_
    refine lv_icmp_le (tgt := 15) hx hb dX1_replace_10 (by decide) (fun c10 => ?_) (fun c10 => ?_)
    · have h := o_t c10 h
      refine lv_iload hx hb dX1_replace_15 (lv_at hl 4 rfl) ?_
      refine lv_bipush (v := 11) hx hb dX1_replace_17 (by decide) ?_
      refine lv_imul hx hb dX1_replace_19 ?_
      refine lv_istore (lv' := [(5, .int (x4 * 11)), (0, .ref a0), (1, .ref a_p1), (2, .int x2), (3, .int x3), (4, .int x4)]) hx hb dX1_replace_20 hl (by decide) rfl (fun ls hl => ?_)
      refine lv_aload_n hx hb dX1_replace_22 rfl (lv_at hl 2 rfl) ?_
      refine lv_iload_n hx hb dX1_replace_23 rfl (lv_at hl 3 rfl) ?_
      obtain ⟨z24, hz24, h⟩ := o_b h
      refine k_v (wn := (ws_X1_replace cI cJ cB a0 a_body a_spans a_bound a_bench a_bench_tree a_bench_tree_cells a_bench_starts a_bench_looses a_sum a_sum_numbers a_rowsOfPoints a_p1 a_p1_cells points pointsPut takenOut bench_parts bench_tree_rows bench_tree_cells bench_tree_cells_n bench_starts bench_looses sum_numbers rowsOfPoints p1_rows p1_cells p1_cells_n)) (As := [.int x2]) (rest := []) F hNw hK hP hD hS hA (c_X5_kind l D cI cJ cB a_p1 a_p1_cells _ p1_rows p1_cells p1_cells_n x2 N hz24) wm_832 cv_X5_kind [9, 10] [0, 1, 2, 3, 4, 5, 6, 7, 8] [0, 1, 2, 3, 4, 5, 6, 7, 8, 9, 10] (⟨rfl, rfl, rfl, by decide, rfl⟩ : Ix [9, 10] [0, 1, 2, 3, 4, 5, 6, 7, 8] [0, 1, 2, 3, 4, 5, 6, 7, 8, 9, 10] 11) rfl rfl rfl rfl rfl rfl ⟨rfl, rfl, by decide, by decide⟩ hl.1 rfl (Nat.le_of_ble_eq_true rfl) ⟨Nat.zero_le _, Nat.zero_le _⟩ dX1_replace_24 (fun H locs hP hD hS => ?_)
      refine lv_istore (lv' := [(6, .int z24), (5, .int (x4 * 11)), (0, .ref a0), (1, .ref a_p1), (2, .int x2), (3, .int x3), (4, .int x4)]) hx hb dX1_replace_27 hl (by decide) rfl (fun ls hl => ?_)
      refine lv_aload_n hx hb dX1_replace_29 rfl (lv_at hl 3 rfl) ?_
      refine lv_iload_n hx hb dX1_replace_30 rfl (lv_at hl 4 rfl) ?_
      refine lv_iload_n hx hb dX1_replace_31 rfl (lv_at hl 5 rfl) ?_
      obtain ⟨z32, hz32, h⟩ := o_b h
      refine k_v (wn := (ws_X1_replace cI cJ cB a0 a_body a_spans a_bound a_bench a_bench_tree a_bench_tree_cells a_bench_starts a_bench_looses a_sum a_sum_numbers a_rowsOfPoints a_p1 a_p1_cells points pointsPut takenOut bench_parts bench_tree_rows bench_tree_cells bench_tree_cells_n bench_starts bench_looses sum_numbers rowsOfPoints p1_rows p1_cells p1_cells_n)) (As := [.int x2, .int x3]) (rest := []) F hNw hK hP hD hS hA (c_X5_number l D cI cJ cB a_p1 a_p1_cells _ p1_rows p1_cells p1_cells_n x2 x3 N hz32) wm_855 cv_X5_number [9, 10] [0, 1, 2, 3, 4, 5, 6, 7, 8] [0, 1, 2, 3, 4, 5, 6, 7, 8, 9, 10] (⟨rfl, rfl, rfl, by decide, rfl⟩ : Ix [9, 10] [0, 1, 2, 3, 4, 5, 6, 7, 8] [0, 1, 2, 3, 4, 5, 6, 7, 8, 9, 10] 11) rfl rfl rfl rfl rfl rfl ⟨rfl, rfl, by decide, by decide⟩ hl.1 rfl (Nat.le_of_ble_eq_true rfl) ⟨Nat.zero_le _, Nat.zero_le _⟩ dX1_replace_32 (fun H locs hP hD hS => ?_)
      refine lv_i2l hx hb dX1_replace_35 rfl ?_
      refine lv_lstore (lv' := [(7, .long z32.toInt64), (6, .int z24), (5, .int (x4 * 11)), (0, .ref a0), (1, .ref a_p1), (2, .int x2), (3, .int x3), (4, .int x4)]) hx hb dX1_replace_36 hl (by decide) rfl (fun ls hl => ?_)
      refine lv_aload_n hx hb dX1_replace_38 rfl (lv_at hl 3 rfl) ?_
      refine r_get F hK hP 0 3 rfl inW_X1 wm_214 rfl (by decide) rfl dX1_replace_39 ?_
      refine lv_iload hx hb dX1_replace_42 (lv_at hl 2 rfl) ?_
      obtain ⟨hi44, h⟩ := o_ix h
      refine va_iald hx hb hK hP 8 0 rfl rfl hi44 dX1_replace_44 ?_
      refine lv_iconst (v := 1) hx hb dX1_replace_45 (by decide) ?_
      refine lv_icmp_ne (tgt := 95) hx hb dX1_replace_46 (by decide) (fun c46 => ?_) (fun c46 => ?_)
      · have h := o_f c46 h
        exact w_X1_replace_95 CX hK hsz bench_parts bench_tree_rows bench_tree_cells bench_starts bench_looses sum_numbers x2 x3 (x4 * 11) z24 z32.toInt64 _ _ _ h hP hD hS (lv_sub hl [3, 4, 5, 6, 2, 1, 0] rfl)
      · have h := o_t c46 h
        refine lv_iload hx hb dX1_replace_49 (lv_at hl 1 rfl) ?_
        refine lv_iconst (v := 2) hx hb dX1_replace_51 (by decide) ?_
        refine lv_icmp_eq (tgt := 61) hx hb dX1_replace_52 (by decide) (fun c52 => ?_) (fun c52 => ?_)
        · have h := o_t c52 h
          exact w_X1_replace_61 CX hK hsz bench_parts bench_tree_rows bench_tree_cells bench_starts bench_looses sum_numbers z24 _ _ _ h hP hD hS (lv_sub hl [3, 1] rfl)
        · have h := o_f c52 h
          refine lv_iload hx hb dX1_replace_55 (lv_at hl 1 rfl) ?_
          refine lv_iconst (v := 3) hx hb dX1_replace_57 (by decide) ?_
          refine lv_icmp_ne (tgt := 81) hx hb dX1_replace_58 (by decide) (fun c58 => ?_) (fun c58 => ?_)
          · have h := o_f c58 h
            refine lv_lload hx hb dX1_replace_81 (lv_at hl 0 rfl) ?_
            refine lv_lconst (v := 0) hx hb dX1_replace_83 (by decide) ?_
            refine W.lcmp hx hb dX1_replace_84 ?_
            refine lv_if_le (tgt := 92) hx hb dX1_replace_85 (by decide) (fun c85 => ?_) (fun c85 => ?_)
            · have h := o_t c85 h
              refine lv_iconst (v := 5) hx hb dX1_replace_92 (by decide) ?_
              exact w_X1_replace_93 CX hK hsz bench_parts bench_tree_rows bench_tree_cells bench_starts bench_looses sum_numbers x2 x3 (x4 * 11) z32.toInt64 5 _ _ _ h hP hD hS (lv_sub hl [3, 4, 5, 6, 2, 0] rfl)
            · have h := o_f c85 h
              refine lv_iconst (v := 4) hx hb dX1_replace_88 (by decide) ?_
              refine lv_goto (tgt := 93) hx hb dX1_replace_89 (by decide) ?_
              exact w_X1_replace_93 CX hK hsz bench_parts bench_tree_rows bench_tree_cells bench_starts bench_looses sum_numbers x2 x3 (x4 * 11) z32.toInt64 4 _ _ _ h hP hD hS (lv_sub hl [3, 4, 5, 6, 2, 0] rfl)
          · have h := o_t c58 h
            exact w_X1_replace_61 CX hK hsz bench_parts bench_tree_rows bench_tree_cells bench_starts bench_looses sum_numbers z24 _ _ _ h hP hD hS (lv_sub hl [3, 1] rfl)
    · have h := o_f c10 h
      exact w_X1_replace_13 CX hK hsz bench_parts bench_tree_rows bench_tree_cells bench_starts bench_looses sum_numbers _ _ _ h hP hD hS (lv_sub hl [] rfl)
section G_X1_putValue
abbrev ws_X1_putValue (cI cJ cB : ClassId) (a0 a_body a_bench a_bench_tree a_bench_tree_cells a_bench_starts a_bench_looses a_sum a_sum_numbers a_rowsOfPoints a_spans a_bound a_p1 a_p1_cells : Nat) (points : Int32) (pointsPut : Int32) (takenOut : Int32) (bench_parts : Int32) (bench_tree_rows : Int32) (bench_tree_cells : Nat → Int32) (bench_tree_cells_n : Nat) (bench_starts : Nat → Int32) (bench_looses : Nat → Int32) (sum_numbers : Nat → Int64) (rowsOfPoints : Nat → Int32) (spans : Nat → Int32) (bound : Nat → Int32) (p1_rows : Int32) (p1_cells : Nat → Int32) (p1_cells_n : Nat) : va_W := [(a0, .inr (3, [.ref a_bench, .ref a_body, .ref a_sum, .ref a_rowsOfPoints, .ref a_spans, .ref a_bound, .int points, .int pointsPut, .int takenOut])), (a_bench, .inr (2, [.ref a_bench_tree, .ref a_bench_starts, .ref a_bench_looses, .int bench_parts])), (a_bench_tree, .inr (7, [.ref a_bench_tree_cells, .int bench_tree_rows])), (a_bench_tree_cells, .inl (cI, bench_tree_cells_n, .inl bench_tree_cells)), (a_bench_starts, .inl (cI, 402, .inl bench_starts)), (a_bench_looses, .inl (cI, 402, .inl bench_looses)), (a_sum, .inr (6, [.ref a_sum_numbers])), (a_sum_numbers, .inl (cJ, 9, .inr (.inl sum_numbers))), (a_rowsOfPoints, .inl (cI, 4411, .inl rowsOfPoints)), (a_spans, .inl (cI, 400, .inl spans)), (a_bound, .inl (cI, 400, .inl bound)), (a_p1, .inr (7, [.ref a_p1_cells, .int p1_rows])), (a_p1_cells, .inl (cI, p1_cells_n, .inl p1_cells))]
abbrev rm_X1_putValue : Room := { frames := 5, cells := 0, slots := 0, locals := 125 }
def f_X1_putValue_164 (K56 : Int32 → Int32 → (Nat → Int32) → Nat → (Nat → Int32) → (Nat → Int32) → (Nat → Int64) → (Nat → Int32) → (Nat → Int32) → (Nat → Int32) → Int32 → (Nat → Int32) → Nat → Int32 → Int32 → Int32 → Option (Int32 × (Int32) × (Int32) × (Nat → Int32) × (Nat → Int32) × (Nat → Int32) × (Nat → Int64) × (Nat → Int32) × (Nat → Int32) × (Nat → Int32))) (N : Nat) (bench_parts : Int32) (bench_tree_rows : Int32) (bench_tree_cells : Nat → Int32) (bench_tree_cells_n : Nat) (bench_starts : Nat → Int32) (bench_looses : Nat → Int32) (sum_numbers : Nat → Int64) (rowsOfPoints : Nat → Int32) (spans : Nat → Int32) (bound : Nat → Int32) (p1_rows : Int32) (p1_cells : Nat → Int32) (p1_cells_n : Nat) (y2 : Int32) (y5 : Int32) (y6 : Int32) : Option (Int32 × (Int32) × (Int32) × (Nat → Int32) × (Nat → Int32) × (Nat → Int32) × (Nat → Int64) × (Nat → Int32) × (Nat → Int32) × (Nat → Int32)) := K56 bench_parts bench_tree_rows bench_tree_cells bench_tree_cells_n bench_starts bench_looses sum_numbers rowsOfPoints spans bound p1_rows p1_cells p1_cells_n y2 y5 (y6 + 1)
def f_X1_putValue_137 (K56 : Int32 → Int32 → (Nat → Int32) → Nat → (Nat → Int32) → (Nat → Int32) → (Nat → Int64) → (Nat → Int32) → (Nat → Int32) → (Nat → Int32) → Int32 → (Nat → Int32) → Nat → Int32 → Int32 → Int32 → Option (Int32 × (Int32) × (Int32) × (Nat → Int32) × (Nat → Int32) × (Nat → Int32) × (Nat → Int64) × (Nat → Int32) × (Nat → Int32) × (Nat → Int32))) (N : Nat) (bench_parts : Int32) (bench_tree_rows : Int32) (bench_tree_cells : Nat → Int32) (bench_tree_cells_n : Nat) (bench_starts : Nat → Int32) (bench_looses : Nat → Int32) (sum_numbers : Nat → Int64) (rowsOfPoints : Nat → Int32) (spans : Nat → Int32) (bound : Nat → Int32) (p1_rows : Int32) (p1_cells : Nat → Int32) (p1_cells_n : Nat) (y2 : Int32) (y5 : Int32) (y6 : Int32) : Option (Int32 × (Int32) × (Int32) × (Nat → Int32) × (Nat → Int32) × (Nat → Int32) × (Nat → Int64) × (Nat → Int32) × (Nat → Int32) × (Nat → Int32)) := (f_X0_pushRow N bench_parts bench_tree_rows bench_tree_cells bench_tree_cells_n bench_starts bench_looses p1_rows p1_cells p1_cells_n y6).bind (fun z144 => f_X1_putValue_164 K56 N z144.1 z144.2.1 z144.2.2.1 bench_tree_cells_n z144.2.2.2.1 z144.2.2.2.2 sum_numbers rowsOfPoints spans bound p1_rows p1_cells p1_cells_n y2 y5 y6)
def f_X1_putValue_56 (N : Nat) : Nat → Int32 → Int32 → (Nat → Int32) → Nat → (Nat → Int32) → (Nat → Int32) → (Nat → Int64) → (Nat → Int32) → (Nat → Int32) → (Nat → Int32) → Int32 → (Nat → Int32) → Nat → Int32 → Int32 → Int32 → Option (Int32 × (Int32) × (Int32) × (Nat → Int32) × (Nat → Int32) × (Nat → Int32) × (Nat → Int64) × (Nat → Int32) × (Nat → Int32) × (Nat → Int32))
  | 0 => fun _ _ _ _ _ _ _ _ _ _ _ _ _ _ _ _ => none
  | n + 1 => fun bench_parts bench_tree_rows bench_tree_cells bench_tree_cells_n bench_starts bench_looses sum_numbers rowsOfPoints spans bound p1_rows p1_cells p1_cells_n y2 y5 y6 => ifb (y5 ≤ y6) (some (1, bench_parts, bench_tree_rows, bench_tree_cells, bench_starts, bench_looses, sum_numbers, rowsOfPoints, spans, bound)) ((f_X5_kind N p1_rows p1_cells p1_cells_n y6).bind (fun z66 => ifb (z66 < 8) (ifb (z66 < 6) ((f_X5_number N p1_rows p1_cells p1_cells_n y6 y2).bind (fun z120 => ifb (z120 = 0) (f_X1_putValue_137 (f_X1_putValue_56 N n) N bench_parts bench_tree_rows bench_tree_cells bench_tree_cells_n bench_starts bench_looses sum_numbers rowsOfPoints spans bound p1_rows p1_cells p1_cells_n y2 y5 y6) (ix y6 400 (ifb ((bound y6.toNatClampNeg) = 1) (f_X1_putValue_137 (f_X1_putValue_56 N n) N bench_parts bench_tree_rows bench_tree_cells bench_tree_cells_n bench_starts bench_looses sum_numbers rowsOfPoints spans bound p1_rows p1_cells p1_cells_n y2 y5 y6) ((f_X1_replace N bench_parts bench_tree_rows bench_tree_cells bench_tree_cells_n bench_starts bench_looses sum_numbers rowsOfPoints p1_rows p1_cells p1_cells_n y6 y2 0).bind (fun z156 => ifb (z156.1 = 0) (some (0, z156.2.1, z156.2.2.1, z156.2.2.2.1, z156.2.2.2.2.1, z156.2.2.2.2.2.1, z156.2.2.2.2.2.2, rowsOfPoints, spans, bound)) (f_X1_putValue_164 (f_X1_putValue_56 N n) N z156.2.1 z156.2.2.1 z156.2.2.2.1 bench_tree_cells_n z156.2.2.2.2.1 z156.2.2.2.2.2.1 z156.2.2.2.2.2.2 rowsOfPoints spans bound p1_rows p1_cells p1_cells_n y2 y5 y6))))))) ((f_X0_join N bench_parts bench_tree_rows bench_tree_cells bench_tree_cells_n bench_starts bench_looses z66).bind (fun z110 => f_X1_putValue_164 (f_X1_putValue_56 N n) N z110.1 z110.2.1 z110.2.2.1 bench_tree_cells_n bench_starts z110.2.2.2 sum_numbers rowsOfPoints spans bound p1_rows p1_cells p1_cells_n y2 y5 y6))) ((f_X5_number N p1_rows p1_cells p1_cells_n y6 0).bind (fun z88 => (f_X0_bind N bench_parts bench_tree_rows bench_tree_cells bench_tree_cells_n bench_looses z66 z88).bind (fun z91 => f_X1_putValue_164 (f_X1_putValue_56 N n) N bench_parts z91.1 z91.2.1 bench_tree_cells_n bench_starts z91.2.2 sum_numbers rowsOfPoints spans bound p1_rows p1_cells p1_cells_n y2 y5 y6)))))
def f_X1_putValue (N : Nat) (bench_parts : Int32) (bench_tree_rows : Int32) (bench_tree_cells : Nat → Int32) (bench_tree_cells_n : Nat) (bench_starts : Nat → Int32) (bench_looses : Nat → Int32) (sum_numbers : Nat → Int64) (rowsOfPoints : Nat → Int32) (spans : Nat → Int32) (bound : Nat → Int32) (p1_rows : Int32) (p1_cells : Nat → Int32) (p1_cells_n : Nat) (x2 : Int32) (x3 : Int32) (x4 : Int32) : Option (Int32 × (Int32) × (Int32) × (Nat → Int32) × (Nat → Int32) × (Nat → Int32) × (Nat → Int64) × (Nat → Int32) × (Nat → Int32) × (Nat → Int32)) := (f_X0_begin N bench_parts bench_tree_rows).bind (fun z4 => (f_J7_fill_fda19 N rowsOfPoints 4411 0 11 0).bind (fun z15 => ix 9 4411 (ix 10 4411 ((f_X1_markBound N spans bound p1_rows p1_cells p1_cells_n x2).bind (fun z38 => f_X1_putValue_56 N N z4.1 z4.2 bench_tree_cells bench_tree_cells_n bench_starts bench_looses sum_numbers (upd (upd z15 (9 : Int32).toNatClampNeg x3) (10 : Int32).toNatClampNeg x4) z38.1 z38.2 p1_rows p1_cells p1_cells_n x2 (jmin p1_rows 400) 0)))))
variable {p : Program} {l : Launch} {e : Env} {s : State} {m : MethodId} {below : List Frame} {meth : Method} {c : Code} {args : Array Value} {x0 : Cond} {D : va_G} {cI cJ cB : ClassId} {sz N : Nat} {ws0 : va_W} {a0 a_body a_bench a_bench_tree a_bench_tree_cells a_bench_starts a_bench_looses a_sum a_sum_numbers a_rowsOfPoints a_spans a_bound a_p1 a_p1_cells : Nat} {points : Int32} {pointsPut : Int32} {takenOut : Int32} {bench_tree_cells_n : Nat} {p1_rows : Int32} {p1_cells : Nat → Int32} {p1_cells_n : Nat} {z : Int32 × (Int32) × (Int32) × (Nat → Int32) × (Nat → Int32) × (Nat → Int32) × (Nat → Int64) × (Nat → Int32) × (Nat → Int32) × (Nat → Int32)}
set_option maxHeartbeats 4000000 in
set_option maxRecDepth 100000 in
theorem w_X1_putValue_164 (CX : Cx p m c cX1_putValue 8 s args x0 RX1 meth (some .boolean)) (hK : va_K D vwCl (ty0 cI cJ cB) s) (hsz : s.heap.size = sz) {K56 : Int32 → Int32 → (Nat → Int32) → Nat → (Nat → Int32) → (Nat → Int32) → (Nat → Int64) → (Nat → Int32) → (Nat → Int32) → (Nat → Int32) → Int32 → (Nat → Int32) → Nat → Int32 → Int32 → Int32 → Option (Int32 × (Int32) × (Int32) × (Nat → Int32) × (Nat → Int32) × (Nat → Int32) × (Nat → Int64) × (Nat → Int32) × (Nat → Int32) × (Nat → Int32))} (hK56 : ∀ (bench_parts : Int32) (bench_tree_rows : Int32) (bench_tree_cells : Nat → Int32) (bench_starts : Nat → Int32) (bench_looses : Nat → Int32) (sum_numbers : Nat → Int64) (rowsOfPoints : Nat → Int32) (spans : Nat → Int32) (bound : Nat → Int32) (y2 : Int32) (y5 : Int32) (y6 : Int32) (H : Heap) (locs : List Loc) (ls : Array Slot), K56 bench_parts bench_tree_rows bench_tree_cells bench_tree_cells_n bench_starts bench_looses sum_numbers rowsOfPoints spans bound p1_rows p1_cells p1_cells_n y2 y5 y6 = some z → va_P D vwCl (ws_X1_putValue cI cJ cB a0 a_body a_bench a_bench_tree a_bench_tree_cells a_bench_starts a_bench_looses a_sum a_sum_numbers a_rowsOfPoints a_spans a_bound a_p1 a_p1_cells points pointsPut takenOut bench_parts bench_tree_rows bench_tree_cells bench_tree_cells_n bench_starts bench_looses sum_numbers rowsOfPoints spans bound p1_rows p1_cells p1_cells_n) H → va_D (va_A ws0 sz) (ws_X1_putValue cI cJ cB a0 a_body a_bench a_bench_tree a_bench_tree_cells a_bench_starts a_bench_looses a_sum a_sum_numbers a_rowsOfPoints a_spans a_bound a_p1 a_p1_cells points pointsPut takenOut bench_parts bench_tree_rows bench_tree_cells bench_tree_cells_n bench_starts bench_looses sum_numbers rowsOfPoints spans bound p1_rows p1_cells p1_cells_n) → va_S (va_A ws0 sz) s.heap H locs → lv_has ls 8 [(0, .ref a0), (1, .ref a_p1), (2, .int y2), (5, .int y5), (6, .int y6)] → W p l e rm_X1_putValue s m args below meth c H locs 0 0 (MQ below (gQ D sz ws0 (ws_X1_putValue cI cJ cB a0 a_body a_bench a_bench_tree a_bench_tree_cells a_bench_starts a_bench_looses a_sum a_sum_numbers a_rowsOfPoints a_spans a_bound a_p1 a_p1_cells points pointsPut takenOut z.2.1 z.2.2.1 z.2.2.2.1 bench_tree_cells_n z.2.2.2.2.1 z.2.2.2.2.2.1 z.2.2.2.2.2.2.1 z.2.2.2.2.2.2.2.1 z.2.2.2.2.2.2.2.2.1 z.2.2.2.2.2.2.2.2.2 p1_rows p1_cells p1_cells_n) (some (.int z.1))) args s 0 0 (va_A ws0 sz)) (F0 m 56 ls [])) : ∀ (bench_parts : Int32) (bench_tree_rows : Int32) (bench_tree_cells : Nat → Int32) (bench_starts : Nat → Int32) (bench_looses : Nat → Int32) (sum_numbers : Nat → Int64) (rowsOfPoints : Nat → Int32) (spans : Nat → Int32) (bound : Nat → Int32) (y2 : Int32) (y5 : Int32) (y6 : Int32) (H : Heap) (locs : List Loc) (ls : Array Slot), f_X1_putValue_164 K56 N bench_parts bench_tree_rows bench_tree_cells bench_tree_cells_n bench_starts bench_looses sum_numbers rowsOfPoints spans bound p1_rows p1_cells p1_cells_n y2 y5 y6 = some z → va_P D vwCl (ws_X1_putValue cI cJ cB a0 a_body a_bench a_bench_tree a_bench_tree_cells a_bench_starts a_bench_looses a_sum a_sum_numbers a_rowsOfPoints a_spans a_bound a_p1 a_p1_cells points pointsPut takenOut bench_parts bench_tree_rows bench_tree_cells bench_tree_cells_n bench_starts bench_looses sum_numbers rowsOfPoints spans bound p1_rows p1_cells p1_cells_n) H → va_D (va_A ws0 sz) (ws_X1_putValue cI cJ cB a0 a_body a_bench a_bench_tree a_bench_tree_cells a_bench_starts a_bench_looses a_sum a_sum_numbers a_rowsOfPoints a_spans a_bound a_p1 a_p1_cells points pointsPut takenOut bench_parts bench_tree_rows bench_tree_cells bench_tree_cells_n bench_starts bench_looses sum_numbers rowsOfPoints spans bound p1_rows p1_cells p1_cells_n) → va_S (va_A ws0 sz) s.heap H locs → lv_has ls 8 [(0, .ref a0), (1, .ref a_p1), (2, .int y2), (5, .int y5), (6, .int y6)] → W p l e rm_X1_putValue s m args below meth c H locs 0 0 (MQ below (gQ D sz ws0 (ws_X1_putValue cI cJ cB a0 a_body a_bench a_bench_tree a_bench_tree_cells a_bench_starts a_bench_looses a_sum a_sum_numbers a_rowsOfPoints a_spans a_bound a_p1 a_p1_cells points pointsPut takenOut z.2.1 z.2.2.1 z.2.2.2.1 bench_tree_cells_n z.2.2.2.2.1 z.2.2.2.2.2.1 z.2.2.2.2.2.2.1 z.2.2.2.2.2.2.2.1 z.2.2.2.2.2.2.2.2.1 z.2.2.2.2.2.2.2.2.2 p1_rows p1_cells p1_cells_n) (some (.int z.1))) args s 0 0 (va_A ws0 sz)) (F0 m 164 ls []) := by
  obtain ⟨F, hr, hlk, hNw⟩ := id CX
  have hx := F.1
  have hb := F.2.1
  have hown := F.2.2.2.1
  have hA : ∀ q, s.heap.size ≤ q → va_A ws0 sz q := fun q hq => Or.inr (hsz ▸ hq)
  intro bench_parts bench_tree_rows bench_tree_cells bench_starts bench_looses sum_numbers rowsOfPoints spans bound y2 y5 y6 H locs ls h hP hD hS hl
  unfold f_X1_putValue_164 at h
  refine lv_iinc (v := y6 + 1) (lv' := [(6, .int (y6 + 1)), (0, .ref a0), (1, .ref a_p1), (2, .int y2), (5, .int y5)]) hx hb dX1_putValue_164 hl (k := 4) rfl rfl (by decide) rfl (fun ls hl => ?_)
  refine lv_goto (tgt := 56) hx hb dX1_putValue_167 (by decide) ?_
  exact hK56 bench_parts bench_tree_rows bench_tree_cells bench_starts bench_looses sum_numbers rowsOfPoints spans bound y2 y5 (y6 + 1) _ _ _ h hP hD hS (lv_sub hl [1, 2, 3, 4, 0] rfl)
set_option maxHeartbeats 4000000 in
set_option maxRecDepth 100000 in
theorem w_X1_putValue_137 (CX : Cx p m c cX1_putValue 8 s args x0 RX1 meth (some .boolean)) (hK : va_K D vwCl (ty0 cI cJ cB) s) (hsz : s.heap.size = sz) {K56 : Int32 → Int32 → (Nat → Int32) → Nat → (Nat → Int32) → (Nat → Int32) → (Nat → Int64) → (Nat → Int32) → (Nat → Int32) → (Nat → Int32) → Int32 → (Nat → Int32) → Nat → Int32 → Int32 → Int32 → Option (Int32 × (Int32) × (Int32) × (Nat → Int32) × (Nat → Int32) × (Nat → Int32) × (Nat → Int64) × (Nat → Int32) × (Nat → Int32) × (Nat → Int32))} (hK56 : ∀ (bench_parts : Int32) (bench_tree_rows : Int32) (bench_tree_cells : Nat → Int32) (bench_starts : Nat → Int32) (bench_looses : Nat → Int32) (sum_numbers : Nat → Int64) (rowsOfPoints : Nat → Int32) (spans : Nat → Int32) (bound : Nat → Int32) (y2 : Int32) (y5 : Int32) (y6 : Int32) (H : Heap) (locs : List Loc) (ls : Array Slot), K56 bench_parts bench_tree_rows bench_tree_cells bench_tree_cells_n bench_starts bench_looses sum_numbers rowsOfPoints spans bound p1_rows p1_cells p1_cells_n y2 y5 y6 = some z → va_P D vwCl (ws_X1_putValue cI cJ cB a0 a_body a_bench a_bench_tree a_bench_tree_cells a_bench_starts a_bench_looses a_sum a_sum_numbers a_rowsOfPoints a_spans a_bound a_p1 a_p1_cells points pointsPut takenOut bench_parts bench_tree_rows bench_tree_cells bench_tree_cells_n bench_starts bench_looses sum_numbers rowsOfPoints spans bound p1_rows p1_cells p1_cells_n) H → va_D (va_A ws0 sz) (ws_X1_putValue cI cJ cB a0 a_body a_bench a_bench_tree a_bench_tree_cells a_bench_starts a_bench_looses a_sum a_sum_numbers a_rowsOfPoints a_spans a_bound a_p1 a_p1_cells points pointsPut takenOut bench_parts bench_tree_rows bench_tree_cells bench_tree_cells_n bench_starts bench_looses sum_numbers rowsOfPoints spans bound p1_rows p1_cells p1_cells_n) → va_S (va_A ws0 sz) s.heap H locs → lv_has ls 8 [(0, .ref a0), (1, .ref a_p1), (2, .int y2), (5, .int y5), (6, .int y6)] → W p l e rm_X1_putValue s m args below meth c H locs 0 0 (MQ below (gQ D sz ws0 (ws_X1_putValue cI cJ cB a0 a_body a_bench a_bench_tree a_bench_tree_cells a_bench_starts a_bench_looses a_sum a_sum_numbers a_rowsOfPoints a_spans a_bound a_p1 a_p1_cells points pointsPut takenOut z.2.1 z.2.2.1 z.2.2.2.1 bench_tree_cells_n z.2.2.2.2.1 z.2.2.2.2.2.1 z.2.2.2.2.2.2.1 z.2.2.2.2.2.2.2.1 z.2.2.2.2.2.2.2.2.1 z.2.2.2.2.2.2.2.2.2 p1_rows p1_cells p1_cells_n) (some (.int z.1))) args s 0 0 (va_A ws0 sz)) (F0 m 56 ls [])) : ∀ (bench_parts : Int32) (bench_tree_rows : Int32) (bench_tree_cells : Nat → Int32) (bench_starts : Nat → Int32) (bench_looses : Nat → Int32) (sum_numbers : Nat → Int64) (rowsOfPoints : Nat → Int32) (spans : Nat → Int32) (bound : Nat → Int32) (y2 : Int32) (y5 : Int32) (y6 : Int32) (H : Heap) (locs : List Loc) (ls : Array Slot), f_X1_putValue_137 K56 N bench_parts bench_tree_rows bench_tree_cells bench_tree_cells_n bench_starts bench_looses sum_numbers rowsOfPoints spans bound p1_rows p1_cells p1_cells_n y2 y5 y6 = some z → va_P D vwCl (ws_X1_putValue cI cJ cB a0 a_body a_bench a_bench_tree a_bench_tree_cells a_bench_starts a_bench_looses a_sum a_sum_numbers a_rowsOfPoints a_spans a_bound a_p1 a_p1_cells points pointsPut takenOut bench_parts bench_tree_rows bench_tree_cells bench_tree_cells_n bench_starts bench_looses sum_numbers rowsOfPoints spans bound p1_rows p1_cells p1_cells_n) H → va_D (va_A ws0 sz) (ws_X1_putValue cI cJ cB a0 a_body a_bench a_bench_tree a_bench_tree_cells a_bench_starts a_bench_looses a_sum a_sum_numbers a_rowsOfPoints a_spans a_bound a_p1 a_p1_cells points pointsPut takenOut bench_parts bench_tree_rows bench_tree_cells bench_tree_cells_n bench_starts bench_looses sum_numbers rowsOfPoints spans bound p1_rows p1_cells p1_cells_n) → va_S (va_A ws0 sz) s.heap H locs → lv_has ls 8 [(0, .ref a0), (1, .ref a_p1), (2, .int y2), (5, .int y5), (6, .int y6)] → W p l e rm_X1_putValue s m args below meth c H locs 0 0 (MQ below (gQ D sz ws0 (ws_X1_putValue cI cJ cB a0 a_body a_bench a_bench_tree a_bench_tree_cells a_bench_starts a_bench_looses a_sum a_sum_numbers a_rowsOfPoints a_spans a_bound a_p1 a_p1_cells points pointsPut takenOut z.2.1 z.2.2.1 z.2.2.2.1 bench_tree_cells_n z.2.2.2.2.1 z.2.2.2.2.2.1 z.2.2.2.2.2.2.1 z.2.2.2.2.2.2.2.1 z.2.2.2.2.2.2.2.2.1 z.2.2.2.2.2.2.2.2.2 p1_rows p1_cells p1_cells_n) (some (.int z.1))) args s 0 0 (va_A ws0 sz)) (F0 m 137 ls []) := by
  obtain ⟨F, hr, hlk, hNw⟩ := id CX
  have hx := F.1
  have hb := F.2.1
  have hown := F.2.2.2.1
  have hA : ∀ q, s.heap.size ≤ q → va_A ws0 sz q := fun q hq => Or.inr (hsz ▸ hq)
  intro bench_parts bench_tree_rows bench_tree_cells bench_starts bench_looses sum_numbers rowsOfPoints spans bound y2 y5 y6 H locs ls h hP hD hS hl
  unfold f_X1_putValue_137 at h
  refine lv_aload_n hx hb dX1_putValue_137 rfl (lv_at hl 0 rfl) ?_
  refine r_get F hK hP 0 0 rfl inW_X1 wm_210 rfl (by decide) rfl dX1_putValue_138 ?_
  refine lv_aload_n hx hb dX1_putValue_141 rfl (lv_at hl 1 rfl) ?_
  refine lv_iload hx hb dX1_putValue_142 (lv_at hl 4 rfl) ?_
  obtain ⟨z144, hz144, h⟩ := o_b h
  refine k_v (wn := (ws_X1_putValue cI cJ cB a0 a_body a_bench a_bench_tree a_bench_tree_cells a_bench_starts a_bench_looses a_sum a_sum_numbers a_rowsOfPoints a_spans a_bound a_p1 a_p1_cells points pointsPut takenOut z144.1 z144.2.1 z144.2.2.1 bench_tree_cells_n z144.2.2.2.1 z144.2.2.2.2 sum_numbers rowsOfPoints spans bound p1_rows p1_cells p1_cells_n)) (As := [.ref a_p1, .int y6]) (rest := []) F hNw hK hP hD hS hA (c_X0_pushRow l D cI cJ cB a_bench a_bench_tree a_bench_tree_cells a_bench_starts a_bench_looses a_p1 a_p1_cells _ bench_parts bench_tree_rows bench_tree_cells bench_tree_cells_n bench_starts bench_looses p1_rows p1_cells p1_cells_n y6 N hz144) wm_845 cv_X0_pushRow [1, 2, 3, 4, 5, 11, 12] [0, 6, 7, 8, 9, 10] [0, 6, 7, 8, 9, 10, 1, 2, 3, 4, 5, 11, 12] (⟨rfl, rfl, rfl, by decide, rfl⟩ : Ix [1, 2, 3, 4, 5, 11, 12] [0, 6, 7, 8, 9, 10] [0, 6, 7, 8, 9, 10, 1, 2, 3, 4, 5, 11, 12] 13) rfl rfl rfl rfl rfl rfl ⟨rfl, rfl, by decide, by decide⟩ hl.1 rfl (Nat.le_of_ble_eq_true rfl) ⟨Nat.zero_le _, Nat.zero_le _⟩ dX1_putValue_144 (fun H locs hP hD hS => ?_)
  refine lv_goto (tgt := 164) hx hb dX1_putValue_147 (by decide) ?_
  exact w_X1_putValue_164 CX hK hsz (hK56 := hK56) z144.1 z144.2.1 z144.2.2.1 z144.2.2.2.1 z144.2.2.2.2 sum_numbers rowsOfPoints spans bound y2 y5 y6 _ _ _ h hP hD hS (lv_sub hl [0, 1, 2, 3, 4] rfl)
set_option maxHeartbeats 4000000 in
set_option maxRecDepth 100000 in
theorem w_X1_putValue_56 (CX : Cx p m c cX1_putValue 8 s args x0 RX1 meth (some .boolean)) (hK : va_K D vwCl (ty0 cI cJ cB) s) (hsz : s.heap.size = sz) : ∀ (n : Nat), ∀ (bench_parts : Int32) (bench_tree_rows : Int32) (bench_tree_cells : Nat → Int32) (bench_starts : Nat → Int32) (bench_looses : Nat → Int32) (sum_numbers : Nat → Int64) (rowsOfPoints : Nat → Int32) (spans : Nat → Int32) (bound : Nat → Int32) (y2 : Int32) (y5 : Int32) (y6 : Int32) (H : Heap) (locs : List Loc) (ls : Array Slot), f_X1_putValue_56 N n bench_parts bench_tree_rows bench_tree_cells bench_tree_cells_n bench_starts bench_looses sum_numbers rowsOfPoints spans bound p1_rows p1_cells p1_cells_n y2 y5 y6 = some z → va_P D vwCl (ws_X1_putValue cI cJ cB a0 a_body a_bench a_bench_tree a_bench_tree_cells a_bench_starts a_bench_looses a_sum a_sum_numbers a_rowsOfPoints a_spans a_bound a_p1 a_p1_cells points pointsPut takenOut bench_parts bench_tree_rows bench_tree_cells bench_tree_cells_n bench_starts bench_looses sum_numbers rowsOfPoints spans bound p1_rows p1_cells p1_cells_n) H → va_D (va_A ws0 sz) (ws_X1_putValue cI cJ cB a0 a_body a_bench a_bench_tree a_bench_tree_cells a_bench_starts a_bench_looses a_sum a_sum_numbers a_rowsOfPoints a_spans a_bound a_p1 a_p1_cells points pointsPut takenOut bench_parts bench_tree_rows bench_tree_cells bench_tree_cells_n bench_starts bench_looses sum_numbers rowsOfPoints spans bound p1_rows p1_cells p1_cells_n) → va_S (va_A ws0 sz) s.heap H locs → lv_has ls 8 [(0, .ref a0), (1, .ref a_p1), (2, .int y2), (5, .int y5), (6, .int y6)] → W p l e rm_X1_putValue s m args below meth c H locs 0 0 (MQ below (gQ D sz ws0 (ws_X1_putValue cI cJ cB a0 a_body a_bench a_bench_tree a_bench_tree_cells a_bench_starts a_bench_looses a_sum a_sum_numbers a_rowsOfPoints a_spans a_bound a_p1 a_p1_cells points pointsPut takenOut z.2.1 z.2.2.1 z.2.2.2.1 bench_tree_cells_n z.2.2.2.2.1 z.2.2.2.2.2.1 z.2.2.2.2.2.2.1 z.2.2.2.2.2.2.2.1 z.2.2.2.2.2.2.2.2.1 z.2.2.2.2.2.2.2.2.2 p1_rows p1_cells p1_cells_n) (some (.int z.1))) args s 0 0 (va_A ws0 sz)) (F0 m 56 ls []) := by
  obtain ⟨F, hr, hlk, hNw⟩ := id CX
  have hx := F.1
  have hb := F.2.1
  have hown := F.2.2.2.1
  have hA : ∀ q, s.heap.size ≤ q → va_A ws0 sz q := fun q hq => Or.inr (hsz ▸ hq)
  intro n
  induction n with
  | zero =>
    intro bench_parts bench_tree_rows bench_tree_cells bench_starts bench_looses sum_numbers rowsOfPoints spans bound y2 y5 y6 H locs ls h
    cases h
  | succ n ih =>
    intro bench_parts bench_tree_rows bench_tree_cells bench_starts bench_looses sum_numbers rowsOfPoints spans bound y2 y5 y6 H locs ls h hP hD hS hl
    unfold f_X1_putValue_56 at h
    refine lv_iload hx hb dX1_putValue_56 (lv_at hl 4 rfl) ?_
    refine lv_iload hx hb dX1_putValue_58 (lv_at hl 3 rfl) ?_
    refine lv_icmp_ge (tgt := 170) hx hb dX1_putValue_60 (by decide) (fun c60 => ?_) (fun c60 => ?_)
    · have h := o_t c60 h
      refine lv_iconst (v := 1) hx hb dX1_putValue_170 (by decide) ?_
      obtain rfl := Option.some.inj h
      exact r_ret (v := 1) F hr hlk rfl dX1_putValue_171 hsz hP hD hS
    · have h := o_f c60 h
      refine lv_aload_n hx hb dX1_putValue_63 rfl (lv_at hl 1 rfl) ?_
      refine lv_iload hx hb dX1_putValue_64 (lv_at hl 4 rfl) ?_
      obtain ⟨z66, hz66, h⟩ := o_b h
      refine k_v (wn := (ws_X1_putValue cI cJ cB a0 a_body a_bench a_bench_tree a_bench_tree_cells a_bench_starts a_bench_looses a_sum a_sum_numbers a_rowsOfPoints a_spans a_bound a_p1 a_p1_cells points pointsPut takenOut bench_parts bench_tree_rows bench_tree_cells bench_tree_cells_n bench_starts bench_looses sum_numbers rowsOfPoints spans bound p1_rows p1_cells p1_cells_n)) (As := [.int y6]) (rest := []) F hNw hK hP hD hS hA (c_X5_kind l D cI cJ cB a_p1 a_p1_cells _ p1_rows p1_cells p1_cells_n y6 N hz66) wm_832 cv_X5_kind [11, 12] [0, 1, 2, 3, 4, 5, 6, 7, 8, 9, 10] [0, 1, 2, 3, 4, 5, 6, 7, 8, 9, 10, 11, 12] (⟨rfl, rfl, rfl, by decide, rfl⟩ : Ix [11, 12] [0, 1, 2, 3, 4, 5, 6, 7, 8, 9, 10] [0, 1, 2, 3, 4, 5, 6, 7, 8, 9, 10, 11, 12] 13) rfl rfl rfl rfl rfl rfl ⟨rfl, rfl, by decide, by decide⟩ hl.1 rfl (Nat.le_of_ble_eq_true rfl) ⟨Nat.zero_le _, Nat.zero_le _⟩ dX1_putValue_66 (fun H locs hP hD hS => ?_)
      refine lv_istore (lv' := [(7, .int z66), (0, .ref a0), (1, .ref a_p1), (2, .int y2), (5, .int y5), (6, .int y6)]) hx hb dX1_putValue_69 hl (by decide) rfl (fun ls hl => ?_)
      refine lv_iload hx hb dX1_putValue_71 (lv_at hl 0 rfl) ?_
      refine lv_bipush (v := 8) hx hb dX1_putValue_73 (by decide) ?_
      refine lv_icmp_lt (tgt := 97) hx hb dX1_putValue_75 (by decide) (fun c75 => ?_) (fun c75 => ?_)
      · have h := o_t c75 h
        refine lv_iload hx hb dX1_putValue_97 (lv_at hl 0 rfl) ?_
        refine lv_bipush (v := 6) hx hb dX1_putValue_99 (by decide) ?_
        refine lv_icmp_lt (tgt := 116) hx hb dX1_putValue_101 (by decide) (fun c101 => ?_) (fun c101 => ?_)
        · have h := o_t c101 h
          refine lv_aload_n hx hb dX1_putValue_116 rfl (lv_at hl 2 rfl) ?_
          refine lv_iload hx hb dX1_putValue_117 (lv_at hl 5 rfl) ?_
          refine lv_iload_n hx hb dX1_putValue_119 rfl (lv_at hl 3 rfl) ?_
          obtain ⟨z120, hz120, h⟩ := o_b h
          refine k_v (wn := (ws_X1_putValue cI cJ cB a0 a_body a_bench a_bench_tree a_bench_tree_cells a_bench_starts a_bench_looses a_sum a_sum_numbers a_rowsOfPoints a_spans a_bound a_p1 a_p1_cells points pointsPut takenOut bench_parts bench_tree_rows bench_tree_cells bench_tree_cells_n bench_starts bench_looses sum_numbers rowsOfPoints spans bound p1_rows p1_cells p1_cells_n)) (As := [.int y6, .int y2]) (rest := []) F hNw hK hP hD hS hA (c_X5_number l D cI cJ cB a_p1 a_p1_cells _ p1_rows p1_cells p1_cells_n y6 y2 N hz120) wm_855 cv_X5_number [11, 12] [0, 1, 2, 3, 4, 5, 6, 7, 8, 9, 10] [0, 1, 2, 3, 4, 5, 6, 7, 8, 9, 10, 11, 12] (⟨rfl, rfl, rfl, by decide, rfl⟩ : Ix [11, 12] [0, 1, 2, 3, 4, 5, 6, 7, 8, 9, 10] [0, 1, 2, 3, 4, 5, 6, 7, 8, 9, 10, 11, 12] 13) rfl rfl rfl rfl rfl rfl ⟨rfl, rfl, by decide, by decide⟩ hl.1 rfl (Nat.le_of_ble_eq_true rfl) ⟨Nat.zero_le _, Nat.zero_le _⟩ dX1_putValue_120 (fun H locs hP hD hS => ?_)
          refine lv_if_eq (tgt := 137) hx hb dX1_putValue_123 (by decide) (fun c123 => ?_) (fun c123 => ?_)
          · have h := o_t c123 h
            exact w_X1_putValue_137 CX hK hsz (hK56 := ih) bench_parts bench_tree_rows bench_tree_cells bench_starts bench_looses sum_numbers rowsOfPoints spans bound y2 y5 y6 _ _ _ h hP hD hS (lv_sub hl [1, 2, 3, 4, 5] rfl)
          · have h := o_f c123 h
            refine lv_aload_n hx hb dX1_putValue_126 rfl (lv_at hl 1 rfl) ?_
            refine r_get F hK hP 0 5 rfl inW_X1 wm_216 rfl (by decide) rfl dX1_putValue_127 ?_
            refine lv_iload hx hb dX1_putValue_130 (lv_at hl 5 rfl) ?_
            obtain ⟨hi132, h⟩ := o_ix h
            refine va_iald hx hb hK hP 10 0 rfl rfl hi132 dX1_putValue_132 ?_
            refine lv_iconst (v := 1) hx hb dX1_putValue_133 (by decide) ?_
            refine lv_icmp_ne (tgt := 150) hx hb dX1_putValue_134 (by decide) (fun c134 => ?_) (fun c134 => ?_)
            · have h := o_f c134 h
              refine lv_aload_n hx hb dX1_putValue_150 rfl (lv_at hl 1 rfl) ?_
              refine lv_aload_n hx hb dX1_putValue_151 rfl (lv_at hl 2 rfl) ?_
              refine lv_iload hx hb dX1_putValue_152 (lv_at hl 5 rfl) ?_
              refine lv_iload_n hx hb dX1_putValue_154 rfl (lv_at hl 3 rfl) ?_
              refine lv_iconst (v := 0) hx hb dX1_putValue_155 (by decide) ?_
              obtain ⟨z156, hz156, h⟩ := o_b h
              refine k_v (wn := (ws_X1_putValue cI cJ cB a0 a_body a_bench a_bench_tree a_bench_tree_cells a_bench_starts a_bench_looses a_sum a_sum_numbers a_rowsOfPoints a_spans a_bound a_p1 a_p1_cells points pointsPut takenOut z156.2.1 z156.2.2.1 z156.2.2.2.1 bench_tree_cells_n z156.2.2.2.2.1 z156.2.2.2.2.2.1 z156.2.2.2.2.2.2 rowsOfPoints spans bound p1_rows p1_cells p1_cells_n)) (As := [.ref a_p1, .int y6, .int y2, .int 0]) (rest := []) F hNw hK hP hD hS hA (c_X1_replace l D cI cJ cB a0 a_body a_spans a_bound a_bench a_bench_tree a_bench_tree_cells a_bench_starts a_bench_looses a_sum a_sum_numbers a_rowsOfPoints a_p1 a_p1_cells _ points pointsPut takenOut bench_parts bench_tree_rows bench_tree_cells bench_tree_cells_n bench_starts bench_looses sum_numbers rowsOfPoints p1_rows p1_cells p1_cells_n y6 y2 0 N hz156) wm_887 cv_X1_replace [0, 1, 2, 3, 4, 5, 6, 7, 8, 11, 12] [9, 10] [2, 3, 4, 5, 6, 7, 8, 9, 10, 0, 1, 11, 12] (⟨rfl, rfl, rfl, by decide, rfl⟩ : Ix [0, 1, 2, 3, 4, 5, 6, 7, 8, 11, 12] [9, 10] [2, 3, 4, 5, 6, 7, 8, 9, 10, 0, 1, 11, 12] 13) rfl rfl rfl rfl rfl rfl ⟨rfl, rfl, by decide, by decide⟩ hl.1 rfl (Nat.le_of_ble_eq_true rfl) ⟨Nat.zero_le _, Nat.zero_le _⟩ dX1_putValue_156 (fun H locs hP hD hS => ?_)
              refine lv_if_ne (tgt := 164) hx hb dX1_putValue_159 (by decide) (fun c159 => ?_) (fun c159 => ?_)
              · have h := o_f c159 h
                exact w_X1_putValue_164 CX hK hsz (hK56 := ih) z156.2.1 z156.2.2.1 z156.2.2.2.1 z156.2.2.2.2.1 z156.2.2.2.2.2.1 z156.2.2.2.2.2.2 rowsOfPoints spans bound y2 y5 y6 _ _ _ h hP hD hS (lv_sub hl [1, 2, 3, 4, 5] rfl)
              · have h := o_t c159 h
                refine lv_iconst (v := 0) hx hb dX1_putValue_162 (by decide) ?_
                obtain rfl := Option.some.inj h
                exact r_ret (v := 0) F hr hlk rfl dX1_putValue_163 hsz hP hD hS
            · have h := o_t c134 h
              exact w_X1_putValue_137 CX hK hsz (hK56 := ih) bench_parts bench_tree_rows bench_tree_cells bench_starts bench_looses sum_numbers rowsOfPoints spans bound y2 y5 y6 _ _ _ h hP hD hS (lv_sub hl [1, 2, 3, 4, 5] rfl)
        · have h := o_f c101 h
          refine lv_aload_n hx hb dX1_putValue_104 rfl (lv_at hl 1 rfl) ?_
          refine r_get F hK hP 0 0 rfl inW_X1 wm_210 rfl (by decide) rfl dX1_putValue_105 ?_
          refine lv_iload hx hb dX1_putValue_108 (lv_at hl 0 rfl) ?_
          obtain ⟨z110, hz110, h⟩ := o_b h
          refine k_v (wn := (ws_X1_putValue cI cJ cB a0 a_body a_bench a_bench_tree a_bench_tree_cells a_bench_starts a_bench_looses a_sum a_sum_numbers a_rowsOfPoints a_spans a_bound a_p1 a_p1_cells points pointsPut takenOut z110.1 z110.2.1 z110.2.2.1 bench_tree_cells_n bench_starts z110.2.2.2 sum_numbers rowsOfPoints spans bound p1_rows p1_cells p1_cells_n)) (As := [.int z66]) (rest := []) F hNw hK hP hD hS hA (c_X0_join l D cI cJ cB a_bench a_bench_tree a_bench_tree_cells a_bench_starts a_bench_looses _ bench_parts bench_tree_rows bench_tree_cells bench_tree_cells_n bench_starts bench_looses z66 N hz110) wm_854 cv_X0_join [1, 2, 3, 4, 5] [0, 6, 7, 8, 9, 10, 11, 12] [0, 8, 9, 10, 11, 12, 1, 2, 3, 4, 5, 6, 7] (⟨rfl, rfl, rfl, by decide, rfl⟩ : Ix [1, 2, 3, 4, 5] [0, 6, 7, 8, 9, 10, 11, 12] [0, 8, 9, 10, 11, 12, 1, 2, 3, 4, 5, 6, 7] 13) rfl rfl rfl rfl rfl rfl ⟨rfl, rfl, by decide, by decide⟩ hl.1 rfl (Nat.le_of_ble_eq_true rfl) ⟨Nat.zero_le _, Nat.zero_le _⟩ dX1_putValue_110 (fun H locs hP hD hS => ?_)
          refine lv_goto (tgt := 164) hx hb dX1_putValue_113 (by decide) ?_
          exact w_X1_putValue_164 CX hK hsz (hK56 := ih) z110.1 z110.2.1 z110.2.2.1 bench_starts z110.2.2.2 sum_numbers rowsOfPoints spans bound y2 y5 y6 _ _ _ h hP hD hS (lv_sub hl [1, 2, 3, 4, 5] rfl)
      · have h := o_f c75 h
        refine lv_aload_n hx hb dX1_putValue_78 rfl (lv_at hl 1 rfl) ?_
        refine r_get F hK hP 0 0 rfl inW_X1 wm_210 rfl (by decide) rfl dX1_putValue_79 ?_
        refine lv_iload hx hb dX1_putValue_82 (lv_at hl 0 rfl) ?_
        refine lv_aload_n hx hb dX1_putValue_84 rfl (lv_at hl 2 rfl) ?_
        refine lv_iload hx hb dX1_putValue_85 (lv_at hl 5 rfl) ?_
        refine lv_iconst (v := 0) hx hb dX1_putValue_87 (by decide) ?_
        obtain ⟨z88, hz88, h⟩ := o_b h
        refine k_v (wn := (ws_X1_putValue cI cJ cB a0 a_body a_bench a_bench_tree a_bench_tree_cells a_bench_starts a_bench_looses a_sum a_sum_numbers a_rowsOfPoints a_spans a_bound a_p1 a_p1_cells points pointsPut takenOut bench_parts bench_tree_rows bench_tree_cells bench_tree_cells_n bench_starts bench_looses sum_numbers rowsOfPoints spans bound p1_rows p1_cells p1_cells_n)) (As := [.int y6, .int 0]) (rest := [.int z66, .ref a_bench]) F hNw hK hP hD hS hA (c_X5_number l D cI cJ cB a_p1 a_p1_cells _ p1_rows p1_cells p1_cells_n y6 0 N hz88) wm_855 cv_X5_number [11, 12] [0, 1, 2, 3, 4, 5, 6, 7, 8, 9, 10] [0, 1, 2, 3, 4, 5, 6, 7, 8, 9, 10, 11, 12] (⟨rfl, rfl, rfl, by decide, rfl⟩ : Ix [11, 12] [0, 1, 2, 3, 4, 5, 6, 7, 8, 9, 10] [0, 1, 2, 3, 4, 5, 6, 7, 8, 9, 10, 11, 12] 13) rfl rfl rfl rfl rfl rfl ⟨rfl, rfl, by decide, by decide⟩ hl.1 rfl (Nat.le_of_ble_eq_true rfl) ⟨Nat.zero_le _, Nat.zero_le _⟩ dX1_putValue_88 (fun H locs hP hD hS => ?_)
        obtain ⟨z91, hz91, h⟩ := o_b h
        refine k_v (wn := (ws_X1_putValue cI cJ cB a0 a_body a_bench a_bench_tree a_bench_tree_cells a_bench_starts a_bench_looses a_sum a_sum_numbers a_rowsOfPoints a_spans a_bound a_p1 a_p1_cells points pointsPut takenOut bench_parts z91.1 z91.2.1 bench_tree_cells_n bench_starts z91.2.2 sum_numbers rowsOfPoints spans bound p1_rows p1_cells p1_cells_n)) (As := [.int z66, .int z88]) (rest := []) F hNw hK hP hD hS hA (c_X0_bind l D cI cJ cB a_bench a_bench_starts a_bench_tree a_bench_tree_cells a_bench_looses _ bench_parts bench_tree_rows bench_tree_cells bench_tree_cells_n bench_looses z66 z88 N hz91) wm_920 cv_X0_bind [1, 2, 3, 5] [0, 4, 6, 7, 8, 9, 10, 11, 12] [0, 9, 10, 11, 1, 12, 2, 3, 4, 5, 6, 7, 8] (⟨rfl, rfl, rfl, by decide, rfl⟩ : Ix [1, 2, 3, 5] [0, 4, 6, 7, 8, 9, 10, 11, 12] [0, 9, 10, 11, 1, 12, 2, 3, 4, 5, 6, 7, 8] 13) rfl rfl rfl rfl rfl rfl ⟨rfl, rfl, by decide, by decide⟩ hl.1 rfl (Nat.le_of_ble_eq_true rfl) ⟨Nat.zero_le _, Nat.zero_le _⟩ dX1_putValue_91 (fun H locs hP hD hS => ?_)
        refine lv_goto (tgt := 164) hx hb dX1_putValue_94 (by decide) ?_
        exact w_X1_putValue_164 CX hK hsz (hK56 := ih) bench_parts z91.1 z91.2.1 bench_starts z91.2.2 sum_numbers rowsOfPoints spans bound y2 y5 y6 _ _ _ h hP hD hS (lv_sub hl [1, 2, 3, 4, 5] rfl)
end G_X1_putValue
set_option maxHeartbeats 4000000 in
set_option maxRecDepth 100000 in
theorem c_X1_putValue (l : Launch) (D : va_G) (cI cJ cB : ClassId) (a0 a_body a_bench a_bench_tree a_bench_tree_cells a_bench_starts a_bench_looses a_sum a_sum_numbers a_rowsOfPoints a_spans a_bound a_p1 a_p1_cells : Nat) (sz : Nat) (points : Int32) (pointsPut : Int32) (takenOut : Int32) (bench_parts : Int32) (bench_tree_rows : Int32) (bench_tree_cells : Nat → Int32) (bench_tree_cells_n : Nat) (bench_starts : Nat → Int32) (bench_looses : Nat → Int32) (sum_numbers : Nat → Int64) (rowsOfPoints : Nat → Int32) (spans : Nat → Int32) (bound : Nat → Int32) (p1_rows : Int32) (p1_cells : Nat → Int32) (p1_cells_n : Nat) (x2 : Int32) (x3 : Int32) (x4 : Int32) (N : Nat) {z : Int32 × (Int32) × (Int32) × (Nat → Int32) × (Nat → Int32) × (Nat → Int32) × (Nat → Int64) × (Nat → Int32) × (Nat → Int32) × (Nat → Int32)} (h : f_X1_putValue N bench_parts bench_tree_rows bench_tree_cells bench_tree_cells_n bench_starts bench_looses sum_numbers rowsOfPoints spans bound p1_rows p1_cells p1_cells_n x2 x3 x4 = some z) : Mg l yX1_putValue cX1_putValue 8 (some .boolean) rm_X1_putValue D (ty0 cI cJ cB) [.ref a0, .ref a_p1, .int x2, .int x3, .int x4] sz (ws_X1_putValue cI cJ cB a0 a_body a_bench a_bench_tree a_bench_tree_cells a_bench_starts a_bench_looses a_sum a_sum_numbers a_rowsOfPoints a_spans a_bound a_p1 a_p1_cells points pointsPut takenOut bench_parts bench_tree_rows bench_tree_cells bench_tree_cells_n bench_starts bench_looses sum_numbers rowsOfPoints spans bound p1_rows p1_cells p1_cells_n) (some (.int z.1)) (ws_X1_putValue cI cJ cB a0 a_body a_bench a_bench_tree a_bench_tree_cells a_bench_starts a_bench_looses a_sum a_sum_numbers a_rowsOfPoints a_spans a_bound a_p1 a_p1_cells points pointsPut takenOut z.2.1 z.2.2.1 z.2.2.2.1 bench_tree_cells_n z.2.2.2.2.1 z.2.2.2.2.2.1 z.2.2.2.2.2.2.1 z.2.2.2.2.2.2.2.1 z.2.2.2.2.2.2.2.2.1 z.2.2.2.2.2.2.2.2.2 p1_rows p1_cells p1_cells_n) := by
  refine Mg.of (by decide) (Nat.le_of_ble_eq_true rfl) ?_
  intro p e s m below meth c CX hK hsz hP hD ls hl
  have CX : Cx p m c cX1_putValue 8 s ([.ref a0, .ref a_p1, .int x2, .int x3, .int x4] : List Value).toArray (Cond.code yX1_putValue cX1_putValue 8 (some .boolean)) RX1 meth (some .boolean) := CX
  obtain ⟨F, hr, hlk, hNw⟩ := id CX
  have hx := F.1
  have hb := F.2.1
  have hown := F.2.2.2.1
  have hl : lv_has ls 8 [(0, .ref a0), (1, .ref a_p1), (2, .int x2), (3, .int x3), (4, .int x4)] := hl
  have hS : va_S (va_A (ws_X1_putValue cI cJ cB a0 a_body a_bench a_bench_tree a_bench_tree_cells a_bench_starts a_bench_looses a_sum a_sum_numbers a_rowsOfPoints a_spans a_bound a_p1 a_p1_cells points pointsPut takenOut bench_parts bench_tree_rows bench_tree_cells bench_tree_cells_n bench_starts bench_looses sum_numbers rowsOfPoints spans bound p1_rows p1_cells p1_cells_n) sz) s.heap s.heap [] := va_S.rf
  have hA : ∀ q, s.heap.size ≤ q → va_A (ws_X1_putValue cI cJ cB a0 a_body a_bench a_bench_tree a_bench_tree_cells a_bench_starts a_bench_looses a_sum a_sum_numbers a_rowsOfPoints a_spans a_bound a_p1 a_p1_cells points pointsPut takenOut bench_parts bench_tree_rows bench_tree_cells bench_tree_cells_n bench_starts bench_looses sum_numbers rowsOfPoints spans bound p1_rows p1_cells p1_cells_n) sz q := fun q hq => Or.inr (hsz ▸ hq)
  unfold f_X1_putValue at h
  refine lv_aload_n hx hb dX1_putValue_0 rfl (lv_at hl 0 rfl) ?_
  refine r_get F hK hP 0 0 rfl inW_X1 wm_210 rfl (by decide) rfl dX1_putValue_1 ?_
  obtain ⟨z4, hz4, h⟩ := o_b h
  refine k_v (wn := (ws_X1_putValue cI cJ cB a0 a_body a_bench a_bench_tree a_bench_tree_cells a_bench_starts a_bench_looses a_sum a_sum_numbers a_rowsOfPoints a_spans a_bound a_p1 a_p1_cells points pointsPut takenOut z4.1 z4.2 bench_tree_cells bench_tree_cells_n bench_starts bench_looses sum_numbers rowsOfPoints spans bound p1_rows p1_cells p1_cells_n)) (As := []) (rest := []) F hNw hK hP hD hS hA (c_X0_begin l D cI cJ cB a_bench a_bench_starts a_bench_looses a_bench_tree a_bench_tree_cells _ bench_parts bench_tree_rows N hz4) wm_831 cv_X0_begin [1, 2] [0, 3, 4, 5, 6, 7, 8, 9, 10, 11, 12] [0, 11, 12, 1, 2, 3, 4, 5, 6, 7, 8, 9, 10] (⟨rfl, rfl, rfl, by decide, rfl⟩ : Ix [1, 2] [0, 3, 4, 5, 6, 7, 8, 9, 10, 11, 12] [0, 11, 12, 1, 2, 3, 4, 5, 6, 7, 8, 9, 10] 13) rfl rfl rfl rfl rfl rfl ⟨rfl, rfl, by decide, by decide⟩ hl.1 rfl (Nat.le_of_ble_eq_true rfl) ⟨Nat.zero_le _, Nat.zero_le _⟩ dX1_putValue_4 (fun H locs hP hD hS => ?_)
  refine lv_aload_n hx hb dX1_putValue_7 rfl (lv_at hl 0 rfl) ?_
  refine r_get F hK hP 0 3 rfl inW_X1 wm_214 rfl (by decide) rfl dX1_putValue_8 ?_
  refine lv_iconst (v := 0) hx hb dX1_putValue_11 (by decide) ?_
  refine lv_bipush (v := 11) hx hb dX1_putValue_12 (by decide) ?_
  refine lv_iconst (v := 0) hx hb dX1_putValue_14 (by decide) ?_
  obtain ⟨z15, hz15, h⟩ := o_b h
  refine k_s (wn := (ws_X1_putValue cI cJ cB a0 a_body a_bench a_bench_tree a_bench_tree_cells a_bench_starts a_bench_looses a_sum a_sum_numbers a_rowsOfPoints a_spans a_bound a_p1 a_p1_cells points pointsPut takenOut z4.1 z4.2 bench_tree_cells bench_tree_cells_n bench_starts bench_looses sum_numbers z15 spans bound p1_rows p1_cells p1_cells_n)) (As := [.ref a_rowsOfPoints, .int 0, .int 11, .int 0]) (rest := []) F hNw hK hP hD hS hA (c_J7_fill_fda19 l D cI cJ cB a_rowsOfPoints _ rowsOfPoints 4411 0 11 0 N hz15) wm_908 cs_J7_fill_fda19 [8] [0, 1, 2, 3, 4, 5, 6, 7, 9, 10, 11, 12] [0, 1, 2, 3, 4, 5, 6, 7, 12, 8, 9, 10, 11] (⟨rfl, rfl, rfl, by decide, rfl⟩ : Ix [8] [0, 1, 2, 3, 4, 5, 6, 7, 9, 10, 11, 12] [0, 1, 2, 3, 4, 5, 6, 7, 12, 8, 9, 10, 11] 13) rfl rfl rfl ⟨rfl, rfl, by decide, by decide⟩ hl.1 rfl (Nat.le_of_ble_eq_true rfl) ⟨Nat.zero_le _, Nat.zero_le _⟩ dX1_putValue_15 (fun H locs hP hD hS => ?_)
  refine lv_aload_n hx hb dX1_putValue_18 rfl (lv_at hl 0 rfl) ?_
  refine r_get F hK hP 0 3 rfl inW_X1 wm_214 rfl (by decide) rfl dX1_putValue_19 ?_
  refine lv_bipush (v := 9) hx hb dX1_putValue_22 (by decide) ?_
  refine lv_iload_n hx hb dX1_putValue_24 rfl (lv_at hl 3 rfl) ?_
  obtain ⟨hi25, h⟩ := o_ix h
  refine r_iast (wn := (ws_X1_putValue cI cJ cB a0 a_body a_bench a_bench_tree a_bench_tree_cells a_bench_starts a_bench_looses a_sum a_sum_numbers a_rowsOfPoints a_spans a_bound a_p1 a_p1_cells points pointsPut takenOut z4.1 z4.2 bench_tree_cells bench_tree_cells_n bench_starts bench_looses sum_numbers (upd z15 (9 : Int32).toNatClampNeg x3) spans bound p1_rows p1_cells p1_cells_n)) F hK hP hD hS 8 0 hi25 rfl rfl rfl dX1_putValue_25 (fun H locs hP hD hS => ?_)
  refine lv_aload_n hx hb dX1_putValue_26 rfl (lv_at hl 0 rfl) ?_
  refine r_get F hK hP 0 3 rfl inW_X1 wm_214 rfl (by decide) rfl dX1_putValue_27 ?_
  refine lv_bipush (v := 10) hx hb dX1_putValue_30 (by decide) ?_
  refine lv_iload hx hb dX1_putValue_32 (lv_at hl 4 rfl) ?_
  obtain ⟨hi34, h⟩ := o_ix h
  refine r_iast (wn := (ws_X1_putValue cI cJ cB a0 a_body a_bench a_bench_tree a_bench_tree_cells a_bench_starts a_bench_looses a_sum a_sum_numbers a_rowsOfPoints a_spans a_bound a_p1 a_p1_cells points pointsPut takenOut z4.1 z4.2 bench_tree_cells bench_tree_cells_n bench_starts bench_looses sum_numbers (upd (upd z15 (9 : Int32).toNatClampNeg x3) (10 : Int32).toNatClampNeg x4) spans bound p1_rows p1_cells p1_cells_n)) F hK hP hD hS 8 0 hi34 rfl rfl rfl dX1_putValue_34 (fun H locs hP hD hS => ?_)
  refine lv_aload_n hx hb dX1_putValue_35 rfl (lv_at hl 0 rfl) ?_
  refine lv_aload_n hx hb dX1_putValue_36 rfl (lv_at hl 1 rfl) ?_
  refine lv_iload_n hx hb dX1_putValue_37 rfl (lv_at hl 2 rfl) ?_
  obtain ⟨z38, hz38, h⟩ := o_b h
  refine k_v (wn := (ws_X1_putValue cI cJ cB a0 a_body a_bench a_bench_tree a_bench_tree_cells a_bench_starts a_bench_looses a_sum a_sum_numbers a_rowsOfPoints a_spans a_bound a_p1 a_p1_cells points pointsPut takenOut z4.1 z4.2 bench_tree_cells bench_tree_cells_n bench_starts bench_looses sum_numbers (upd (upd z15 (9 : Int32).toNatClampNeg x3) (10 : Int32).toNatClampNeg x4) z38.1 z38.2 p1_rows p1_cells p1_cells_n)) (As := [.ref a_p1, .int x2]) (rest := []) F hNw hK hP hD hS hA (c_X1_markBound l D cI cJ cB a0 a_bench a_body a_sum a_rowsOfPoints a_spans a_bound a_p1 a_p1_cells _ points pointsPut takenOut spans bound p1_rows p1_cells p1_cells_n x2 N hz38) wm_909 cv_X1_markBound [0, 9, 10, 11, 12] [1, 2, 3, 4, 5, 6, 7, 8] [8, 0, 1, 2, 3, 4, 5, 6, 7, 9, 10, 11, 12] (⟨rfl, rfl, rfl, by decide, rfl⟩ : Ix [0, 9, 10, 11, 12] [1, 2, 3, 4, 5, 6, 7, 8] [8, 0, 1, 2, 3, 4, 5, 6, 7, 9, 10, 11, 12] 13) rfl rfl rfl rfl rfl rfl ⟨rfl, rfl, by decide, by decide⟩ hl.1 rfl (Nat.le_of_ble_eq_true rfl) ⟨Nat.zero_le _, Nat.zero_le _⟩ dX1_putValue_38 (fun H locs hP hD hS => ?_)
  refine lv_aload_n hx hb dX1_putValue_41 rfl (lv_at hl 1 rfl) ?_
  refine r_getN F hNw hK hP 11 1 rfl inW_X5 nf_X1_54 rfl (by decide) rfl dX1_putValue_42 ?_
  refine lv_sipush (v := 400) hx hb dX1_putValue_45 (by decide) ?_
  refine va_mmin hx hb (F.2.2.1.trans hl.1.symm) hown (F.2.2.2.2 _ (q_in wm_913)) (F.2.2.2.2 _ (q_in wm_391)) (F.2.2.2.2 _ (q_in wm_75)) (F.2.2.2.2 _ (q_in wm_392)) (Nat.le_of_ble_eq_true rfl) (Nat.le_of_ble_eq_true rfl) (Nat.zero_le _) (Nat.zero_le _) dX1_putValue_48 ?_
  refine lv_istore (lv' := [(5, .int (jmin p1_rows 400)), (0, .ref a0), (1, .ref a_p1), (2, .int x2), (3, .int x3), (4, .int x4)]) hx hb dX1_putValue_51 hl (by decide) rfl (fun ls hl => ?_)
  refine lv_iconst (v := 0) hx hb dX1_putValue_53 (by decide) ?_
  refine lv_istore (lv' := [(6, .int 0), (5, .int (jmin p1_rows 400)), (0, .ref a0), (1, .ref a_p1), (2, .int x2), (3, .int x3), (4, .int x4)]) hx hb dX1_putValue_54 hl (by decide) rfl (fun ls hl => ?_)
  exact w_X1_putValue_56 CX hK hsz N z4.1 z4.2 bench_tree_cells bench_starts bench_looses sum_numbers (upd (upd z15 (9 : Int32).toNatClampNeg x3) (10 : Int32).toNatClampNeg x4) z38.1 z38.2 x2 (jmin p1_rows 400) 0 _ _ _ h hP hD hS (lv_sub hl [2, 3, 4, 1, 0] rfl)
section G_X1_addPoint
abbrev ws_X1_addPoint (cI cJ cB : ClassId) (a0 a_bench a_sum a_spans a_bound a_body a_body_cells a_rowsOfPoints : Nat) (points : Int32) (pointsPut : Int32) (takenOut : Int32) (body_rows : Int32) (body_cells : Nat → Int32) (body_cells_n : Nat) (rowsOfPoints : Nat → Int32) : va_W := [(a0, .inr (3, [.ref a_bench, .ref a_body, .ref a_sum, .ref a_rowsOfPoints, .ref a_spans, .ref a_bound, .int points, .int pointsPut, .int takenOut])), (a_body, .inr (7, [.ref a_body_cells, .int body_rows])), (a_body_cells, .inl (cI, body_cells_n, .inl body_cells)), (a_rowsOfPoints, .inl (cI, 4411, .inl rowsOfPoints))]
abbrev rm_X1_addPoint : Room := { frames := 1, cells := 0, slots := 0, locals := 23 }
def f_X1_addPoint_95 (K54 : Int32 → Int32 → (Nat → Int32) → Nat → (Nat → Int32) → Int32 → Int32 → Int32 → Int32 → Int32 → Int32 → Option ((Int32) × (Nat → Int32))) (N : Nat) (points : Int32) (body_rows : Int32) (body_cells : Nat → Int32) (body_cells_n : Nat) (rowsOfPoints : Nat → Int32) (y1 : Int32) (y2 : Int32) (y4 : Int32) (y5 : Int32) (y6 : Int32) (y7 : Int32) (s1 : Int32) (s2 : Int32) : Option ((Int32) × (Nat → Int32)) := ix s1 4411 (K54 points body_rows body_cells body_cells_n (upd rowsOfPoints s1.toNatClampNeg s2) y1 y2 y4 y5 y6 (y7 + 1))
def f_X1_addPoint_122 (N : Nat) : Nat → Int32 → Int32 → (Nat → Int32) → Nat → (Nat → Int32) → Int32 → Int32 → Option ((Int32) × (Nat → Int32))
  | 0 => fun _ _ _ _ _ _ _ => none
  | n + 1 => fun points body_rows body_cells body_cells_n rowsOfPoints y4 y7 => ifb (points ≤ y7) (some (points + 1, rowsOfPoints)) ((f_X1_isSamePoint N rowsOfPoints (y7 * 11) y4).bind (fun z139 => ifb (z139 = 0) (f_X1_addPoint_122 N n points body_rows body_cells body_cells_n rowsOfPoints y4 (y7 + 1)) (some (points, rowsOfPoints))))
def f_X1_addPoint_54 (N : Nat) : Nat → Int32 → Int32 → (Nat → Int32) → Nat → (Nat → Int32) → Int32 → Int32 → Int32 → Int32 → Int32 → Int32 → Option ((Int32) × (Nat → Int32))
  | 0 => fun _ _ _ _ _ _ _ _ _ _ _ => none
  | n + 1 => fun points body_rows body_cells body_cells_n rowsOfPoints y1 y2 y4 y5 y6 y7 => ifb (9 ≤ y7) (ix ((y4 + 1) + 9) 4411 (f_X1_addPoint_122 N N points body_rows body_cells body_cells_n (upd rowsOfPoints ((y4 + 1) + 9).toNatClampNeg (jabs y5)) y4 1)) (ifb (y7 = y2) (f_X1_addPoint_95 (f_X1_addPoint_54 N n) N points body_rows body_cells body_cells_n rowsOfPoints y1 y2 y4 y5 y6 y7 ((y4 + 1) + y7) 0) ((f_X5_number N body_rows body_cells body_cells_n y1 y7).bind (fun z91 => f_X1_addPoint_95 (f_X1_addPoint_54 N n) N points body_rows body_cells body_cells_n rowsOfPoints y1 y2 y4 y5 y6 y7 ((y4 + 1) + y7) (y6 * z91))))
def f_X1_addPoint_41 (N : Nat) (points : Int32) (body_rows : Int32) (body_cells : Nat → Int32) (body_cells_n : Nat) (rowsOfPoints : Nat → Int32) (y1 : Int32) (y2 : Int32) (y3 : Int32) (y4 : Int32) (y5 : Int32) (s0 : Int32) : Option ((Int32) × (Nat → Int32)) := ix y4 4411 (f_X1_addPoint_54 N N points body_rows body_cells body_cells_n (upd rowsOfPoints y4.toNatClampNeg y3) y1 y2 y4 y5 s0 0)
def f_X1_addPoint (N : Nat) (points : Int32) (body_rows : Int32) (body_cells : Nat → Int32) (body_cells_n : Nat) (rowsOfPoints : Nat → Int32) (x1 : Int32) (x2 : Int32) (x3 : Int32) : Option ((Int32) × (Nat → Int32)) := ifb (points ≤ 400) ((f_X5_number N body_rows body_cells body_cells_n x1 x2).bind (fun z26 => ifb (0 ≤ z26) (f_X1_addPoint_41 N points body_rows body_cells body_cells_n rowsOfPoints x1 x2 x3 (points * 11) z26 (-1)) (f_X1_addPoint_41 N points body_rows body_cells body_cells_n rowsOfPoints x1 x2 x3 (points * 11) z26 1))) (some (points, rowsOfPoints))
variable {p : Program} {l : Launch} {e : Env} {s : State} {m : MethodId} {below : List Frame} {meth : Method} {c : Code} {args : Array Value} {x0 : Cond} {D : va_G} {cI cJ cB : ClassId} {sz N : Nat} {ws0 : va_W} {a0 a_bench a_sum a_spans a_bound a_body a_body_cells a_rowsOfPoints : Nat} {pointsPut : Int32} {takenOut : Int32} {body_rows : Int32} {body_cells : Nat → Int32} {body_cells_n : Nat} {z : (Int32) × (Nat → Int32)}
set_option maxHeartbeats 4000000 in
set_option maxRecDepth 100000 in
theorem w_X1_addPoint_95 (CX : Cx p m c cX1_addPoint 8 s args x0 RX1 meth none) (hK : va_K D vwCl (ty0 cI cJ cB) s) (hsz : s.heap.size = sz) {K54 : Int32 → Int32 → (Nat → Int32) → Nat → (Nat → Int32) → Int32 → Int32 → Int32 → Int32 → Int32 → Int32 → Option ((Int32) × (Nat → Int32))} (hK54 : ∀ (points : Int32) (rowsOfPoints : Nat → Int32) (y1 : Int32) (y2 : Int32) (y4 : Int32) (y5 : Int32) (y6 : Int32) (y7 : Int32) (H : Heap) (locs : List Loc) (ls : Array Slot), K54 points body_rows body_cells body_cells_n rowsOfPoints y1 y2 y4 y5 y6 y7 = some z → va_P D vwCl (ws_X1_addPoint cI cJ cB a0 a_bench a_sum a_spans a_bound a_body a_body_cells a_rowsOfPoints points pointsPut takenOut body_rows body_cells body_cells_n rowsOfPoints) H → va_D (va_A ws0 sz) (ws_X1_addPoint cI cJ cB a0 a_bench a_sum a_spans a_bound a_body a_body_cells a_rowsOfPoints points pointsPut takenOut body_rows body_cells body_cells_n rowsOfPoints) → va_S (va_A ws0 sz) s.heap H locs → lv_has ls 8 [(0, .ref a0), (1, .int y1), (2, .int y2), (4, .int y4), (5, .int y5), (6, .int y6), (7, .int y7)] → W p l e rm_X1_addPoint s m args below meth c H locs 0 0 (MQ below (gQ D sz ws0 (ws_X1_addPoint cI cJ cB a0 a_bench a_sum a_spans a_bound a_body a_body_cells a_rowsOfPoints z.1 pointsPut takenOut body_rows body_cells body_cells_n z.2) none) args s 0 0 (va_A ws0 sz)) (F0 m 54 ls [])) : ∀ (points : Int32) (rowsOfPoints : Nat → Int32) (y1 : Int32) (y2 : Int32) (y4 : Int32) (y5 : Int32) (y6 : Int32) (y7 : Int32) (s1 : Int32) (s2 : Int32) (H : Heap) (locs : List Loc) (ls : Array Slot), f_X1_addPoint_95 K54 N points body_rows body_cells body_cells_n rowsOfPoints y1 y2 y4 y5 y6 y7 s1 s2 = some z → va_P D vwCl (ws_X1_addPoint cI cJ cB a0 a_bench a_sum a_spans a_bound a_body a_body_cells a_rowsOfPoints points pointsPut takenOut body_rows body_cells body_cells_n rowsOfPoints) H → va_D (va_A ws0 sz) (ws_X1_addPoint cI cJ cB a0 a_bench a_sum a_spans a_bound a_body a_body_cells a_rowsOfPoints points pointsPut takenOut body_rows body_cells body_cells_n rowsOfPoints) → va_S (va_A ws0 sz) s.heap H locs → lv_has ls 8 [(0, .ref a0), (1, .int y1), (2, .int y2), (4, .int y4), (5, .int y5), (6, .int y6), (7, .int y7)] → W p l e rm_X1_addPoint s m args below meth c H locs 0 0 (MQ below (gQ D sz ws0 (ws_X1_addPoint cI cJ cB a0 a_bench a_sum a_spans a_bound a_body a_body_cells a_rowsOfPoints z.1 pointsPut takenOut body_rows body_cells body_cells_n z.2) none) args s 0 0 (va_A ws0 sz)) (F0 m 95 ls [.int s2, .int s1, .ref a_rowsOfPoints]) := by
  obtain ⟨F, hr, hlk, hNw⟩ := id CX
  have hx := F.1
  have hb := F.2.1
  have hown := F.2.2.2.1
  have hA : ∀ q, s.heap.size ≤ q → va_A ws0 sz q := fun q hq => Or.inr (hsz ▸ hq)
  intro points rowsOfPoints y1 y2 y4 y5 y6 y7 s1 s2 H locs ls h hP hD hS hl
  unfold f_X1_addPoint_95 at h
  obtain ⟨hi95, h⟩ := o_ix h
  refine r_iast (wn := (ws_X1_addPoint cI cJ cB a0 a_bench a_sum a_spans a_bound a_body a_body_cells a_rowsOfPoints points pointsPut takenOut body_rows body_cells body_cells_n (upd rowsOfPoints s1.toNatClampNeg s2))) F hK hP hD hS 3 0 hi95 rfl rfl rfl dX1_addPoint_95 (fun H locs hP hD hS => ?_)
  refine lv_iinc (v := y7 + 1) (lv' := [(7, .int (y7 + 1)), (0, .ref a0), (1, .int y1), (2, .int y2), (4, .int y4), (5, .int y5), (6, .int y6)]) hx hb dX1_addPoint_96 hl (k := 6) rfl rfl (by decide) rfl (fun ls hl => ?_)
  refine lv_goto (tgt := 54) hx hb dX1_addPoint_99 (by decide) ?_
  exact hK54 points (upd rowsOfPoints s1.toNatClampNeg s2) y1 y2 y4 y5 y6 (y7 + 1) _ _ _ h hP hD hS (lv_sub hl [1, 2, 3, 4, 5, 6, 0] rfl)
set_option maxHeartbeats 4000000 in
set_option maxRecDepth 100000 in
theorem w_X1_addPoint_122 (CX : Cx p m c cX1_addPoint 8 s args x0 RX1 meth none) (hK : va_K D vwCl (ty0 cI cJ cB) s) (hsz : s.heap.size = sz) : ∀ (n : Nat), ∀ (points : Int32) (rowsOfPoints : Nat → Int32) (y4 : Int32) (y7 : Int32) (H : Heap) (locs : List Loc) (ls : Array Slot), f_X1_addPoint_122 N n points body_rows body_cells body_cells_n rowsOfPoints y4 y7 = some z → va_P D vwCl (ws_X1_addPoint cI cJ cB a0 a_bench a_sum a_spans a_bound a_body a_body_cells a_rowsOfPoints points pointsPut takenOut body_rows body_cells body_cells_n rowsOfPoints) H → va_D (va_A ws0 sz) (ws_X1_addPoint cI cJ cB a0 a_bench a_sum a_spans a_bound a_body a_body_cells a_rowsOfPoints points pointsPut takenOut body_rows body_cells body_cells_n rowsOfPoints) → va_S (va_A ws0 sz) s.heap H locs → lv_has ls 8 [(0, .ref a0), (4, .int y4), (7, .int y7)] → W p l e rm_X1_addPoint s m args below meth c H locs 0 0 (MQ below (gQ D sz ws0 (ws_X1_addPoint cI cJ cB a0 a_bench a_sum a_spans a_bound a_body a_body_cells a_rowsOfPoints z.1 pointsPut takenOut body_rows body_cells body_cells_n z.2) none) args s 0 0 (va_A ws0 sz)) (F0 m 122 ls []) := by
  obtain ⟨F, hr, hlk, hNw⟩ := id CX
  have hx := F.1
  have hb := F.2.1
  have hown := F.2.2.2.1
  have hA : ∀ q, s.heap.size ≤ q → va_A ws0 sz q := fun q hq => Or.inr (hsz ▸ hq)
  intro n
  induction n with
  | zero =>
    intro points rowsOfPoints y4 y7 H locs ls h
    cases h
  | succ n ih =>
    intro points rowsOfPoints y4 y7 H locs ls h hP hD hS hl
    unfold f_X1_addPoint_122 at h
    refine lv_iload hx hb dX1_addPoint_122 (lv_at hl 2 rfl) ?_
    refine lv_aload_n hx hb dX1_addPoint_124 rfl (lv_at hl 0 rfl) ?_
    refine r_get F hK hP 0 6 rfl inW_X1 wm_217 rfl (by decide) rfl dX1_addPoint_125 ?_
    refine lv_icmp_ge (tgt := 152) hx hb dX1_addPoint_128 (by decide) (fun c128 => ?_) (fun c128 => ?_)
    · have h := o_t c128 h
      refine lv_aload_n hx hb dX1_addPoint_152 rfl (lv_at hl 0 rfl) ?_
      refine lv_dup hx hb dX1_addPoint_153 rfl ?_
      refine r_get F hK hP 0 6 rfl inW_X1 wm_217 rfl (by decide) rfl dX1_addPoint_154 ?_
      refine lv_iconst (v := 1) hx hb dX1_addPoint_157 (by decide) ?_
      refine lv_iadd hx hb dX1_addPoint_158 ?_
      refine r_put (wn := (ws_X1_addPoint cI cJ cB a0 a_bench a_sum a_spans a_bound a_body a_body_cells a_rowsOfPoints (points + 1) pointsPut takenOut body_rows body_cells body_cells_n rowsOfPoints)) F hK hP hD hS 0 6 rfl inW_X1 wm_217 tyX1_ok nmX1 rfl rfl (by decide) rfl rfl (Nat.le_of_ble_eq_true rfl) rfl dX1_addPoint_159 (fun H locs hP hD hS => ?_)
      obtain rfl := Option.some.inj h
      exact r_vret F hr hlk dX1_addPoint_162 hsz hP hD hS
    · have h := o_f c128 h
      refine lv_aload_n hx hb dX1_addPoint_131 rfl (lv_at hl 0 rfl) ?_
      refine lv_iload hx hb dX1_addPoint_132 (lv_at hl 2 rfl) ?_
      refine lv_bipush (v := 11) hx hb dX1_addPoint_134 (by decide) ?_
      refine lv_imul hx hb dX1_addPoint_136 ?_
      refine lv_iload hx hb dX1_addPoint_137 (lv_at hl 1 rfl) ?_
      obtain ⟨z139, hz139, h⟩ := o_b h
      refine k_v (wn := (ws_X1_addPoint cI cJ cB a0 a_bench a_sum a_spans a_bound a_body a_body_cells a_rowsOfPoints points pointsPut takenOut body_rows body_cells body_cells_n rowsOfPoints)) (As := [.int (y7 * 11), .int y4]) (rest := []) F hNw hK hP hD hS hA (c_X1_isSamePoint l D cI cJ cB a0 a_bench a_body a_sum a_spans a_bound a_rowsOfPoints _ points pointsPut takenOut rowsOfPoints (y7 * 11) y4 N hz139) wm_878 cv_X1_isSamePoint [0, 3] [1, 2] [2, 0, 1, 3] (⟨rfl, rfl, rfl, by decide, rfl⟩ : Ix [0, 3] [1, 2] [2, 0, 1, 3] 4) rfl rfl rfl rfl rfl rfl ⟨rfl, rfl, by decide, by decide⟩ hl.1 rfl (Nat.le_of_ble_eq_true rfl) ⟨Nat.zero_le _, Nat.zero_le _⟩ dX1_addPoint_139 (fun H locs hP hD hS => ?_)
      refine lv_if_eq (tgt := 146) hx hb dX1_addPoint_142 (by decide) (fun c142 => ?_) (fun c142 => ?_)
      · have h := o_t c142 h
        refine lv_iinc (v := y7 + 1) (lv' := [(7, .int (y7 + 1)), (0, .ref a0), (4, .int y4)]) hx hb dX1_addPoint_146 hl (k := 2) rfl rfl (by decide) rfl (fun ls hl => ?_)
        refine lv_goto (tgt := 122) hx hb dX1_addPoint_149 (by decide) ?_
        exact ih points rowsOfPoints y4 (y7 + 1) _ _ _ h hP hD hS (lv_sub hl [1, 2, 0] rfl)
      · have h := o_f c142 h
        obtain rfl := Option.some.inj h
        exact r_vret F hr hlk dX1_addPoint_145 hsz hP hD hS
set_option maxHeartbeats 4000000 in
set_option maxRecDepth 100000 in
theorem w_X1_addPoint_54 (CX : Cx p m c cX1_addPoint 8 s args x0 RX1 meth none) (hK : va_K D vwCl (ty0 cI cJ cB) s) (hsz : s.heap.size = sz) : ∀ (n : Nat), ∀ (points : Int32) (rowsOfPoints : Nat → Int32) (y1 : Int32) (y2 : Int32) (y4 : Int32) (y5 : Int32) (y6 : Int32) (y7 : Int32) (H : Heap) (locs : List Loc) (ls : Array Slot), f_X1_addPoint_54 N n points body_rows body_cells body_cells_n rowsOfPoints y1 y2 y4 y5 y6 y7 = some z → va_P D vwCl (ws_X1_addPoint cI cJ cB a0 a_bench a_sum a_spans a_bound a_body a_body_cells a_rowsOfPoints points pointsPut takenOut body_rows body_cells body_cells_n rowsOfPoints) H → va_D (va_A ws0 sz) (ws_X1_addPoint cI cJ cB a0 a_bench a_sum a_spans a_bound a_body a_body_cells a_rowsOfPoints points pointsPut takenOut body_rows body_cells body_cells_n rowsOfPoints) → va_S (va_A ws0 sz) s.heap H locs → lv_has ls 8 [(0, .ref a0), (1, .int y1), (2, .int y2), (4, .int y4), (5, .int y5), (6, .int y6), (7, .int y7)] → W p l e rm_X1_addPoint s m args below meth c H locs 0 0 (MQ below (gQ D sz ws0 (ws_X1_addPoint cI cJ cB a0 a_bench a_sum a_spans a_bound a_body a_body_cells a_rowsOfPoints z.1 pointsPut takenOut body_rows body_cells body_cells_n z.2) none) args s 0 0 (va_A ws0 sz)) (F0 m 54 ls []) := by
  obtain ⟨F, hr, hlk, hNw⟩ := id CX
  have hx := F.1
  have hb := F.2.1
  have hown := F.2.2.2.1
  have hA : ∀ q, s.heap.size ≤ q → va_A ws0 sz q := fun q hq => Or.inr (hsz ▸ hq)
  intro n
  induction n with
  | zero =>
    intro points rowsOfPoints y1 y2 y4 y5 y6 y7 H locs ls h
    cases h
  | succ n ih =>
    intro points rowsOfPoints y1 y2 y4 y5 y6 y7 H locs ls h hP hD hS hl
    unfold f_X1_addPoint_54 at h
    refine lv_iload hx hb dX1_addPoint_54 (lv_at hl 6 rfl) ?_
    refine lv_bipush (v := 9) hx hb dX1_addPoint_56 (by decide) ?_
    refine lv_icmp_ge (tgt := 102) hx hb dX1_addPoint_58 (by decide) (fun c58 => ?_) (fun c58 => ?_)
    · have h := o_t c58 h
      refine lv_aload_n hx hb dX1_addPoint_102 rfl (lv_at hl 0 rfl) ?_
      refine r_get F hK hP 0 3 rfl inW_X1 wm_214 rfl (by decide) rfl dX1_addPoint_103 ?_
      refine lv_iload hx hb dX1_addPoint_106 (lv_at hl 3 rfl) ?_
      refine lv_iconst (v := 1) hx hb dX1_addPoint_108 (by decide) ?_
      refine lv_iadd hx hb dX1_addPoint_109 ?_
      refine lv_bipush (v := 9) hx hb dX1_addPoint_110 (by decide) ?_
      refine lv_iadd hx hb dX1_addPoint_112 ?_
      refine lv_iload hx hb dX1_addPoint_113 (lv_at hl 4 rfl) ?_
      refine va_mabs hx hb (F.2.2.1.trans hl.1.symm) hown (F.2.2.2.2 _ (q_in wm_875)) (F.2.2.2.2 _ (q_in wm_876)) (F.2.2.2.2 _ (q_in wm_75)) (F.2.2.2.2 _ (q_in wm_877)) (Nat.le_of_ble_eq_true rfl) (Nat.le_of_ble_eq_true rfl) (Nat.zero_le _) (Nat.zero_le _) dX1_addPoint_115 ?_
      obtain ⟨hi118, h⟩ := o_ix h
      refine r_iast (wn := (ws_X1_addPoint cI cJ cB a0 a_bench a_sum a_spans a_bound a_body a_body_cells a_rowsOfPoints points pointsPut takenOut body_rows body_cells body_cells_n (upd rowsOfPoints ((y4 + 1) + 9).toNatClampNeg (jabs y5)))) F hK hP hD hS 3 0 hi118 rfl rfl rfl dX1_addPoint_118 (fun H locs hP hD hS => ?_)
      refine lv_iconst (v := 1) hx hb dX1_addPoint_119 (by decide) ?_
      refine lv_istore (lv' := [(7, .int 1), (0, .ref a0), (1, .int y1), (2, .int y2), (4, .int y4), (5, .int y5), (6, .int y6)]) hx hb dX1_addPoint_120 hl (by decide) rfl (fun ls hl => ?_)
      exact w_X1_addPoint_122 CX hK hsz N points (upd rowsOfPoints ((y4 + 1) + 9).toNatClampNeg (jabs y5)) y4 1 _ _ _ h hP hD hS (lv_sub hl [1, 4, 0] rfl)
    · have h := o_f c58 h
      refine lv_aload_n hx hb dX1_addPoint_61 rfl (lv_at hl 0 rfl) ?_
      refine r_get F hK hP 0 3 rfl inW_X1 wm_214 rfl (by decide) rfl dX1_addPoint_62 ?_
      refine lv_iload hx hb dX1_addPoint_65 (lv_at hl 3 rfl) ?_
      refine lv_iconst (v := 1) hx hb dX1_addPoint_67 (by decide) ?_
      refine lv_iadd hx hb dX1_addPoint_68 ?_
      refine lv_iload hx hb dX1_addPoint_69 (lv_at hl 6 rfl) ?_
      refine lv_iadd hx hb dX1_addPoint_71 ?_
      refine lv_iload hx hb dX1_addPoint_72 (lv_at hl 6 rfl) ?_
      refine lv_iload_n hx hb dX1_addPoint_74 rfl (lv_at hl 2 rfl) ?_
      refine lv_icmp_ne (tgt := 82) hx hb dX1_addPoint_75 (by decide) (fun c75 => ?_) (fun c75 => ?_)
      · have h := o_f c75 h
        refine lv_iload hx hb dX1_addPoint_82 (lv_at hl 5 rfl) ?_
        refine lv_aload_n hx hb dX1_addPoint_84 rfl (lv_at hl 0 rfl) ?_
        refine r_get F hK hP 0 1 rfl inW_X1 wm_212 rfl (by decide) rfl dX1_addPoint_85 ?_
        refine lv_iload_n hx hb dX1_addPoint_88 rfl (lv_at hl 1 rfl) ?_
        refine lv_iload hx hb dX1_addPoint_89 (lv_at hl 6 rfl) ?_
        obtain ⟨z91, hz91, h⟩ := o_b h
        refine k_v (wn := (ws_X1_addPoint cI cJ cB a0 a_bench a_sum a_spans a_bound a_body a_body_cells a_rowsOfPoints points pointsPut takenOut body_rows body_cells body_cells_n rowsOfPoints)) (As := [.int y1, .int y7]) (rest := [.int y6, .int ((y4 + 1) + y7), .ref a_rowsOfPoints]) F hNw hK hP hD hS hA (c_X5_number l D cI cJ cB a_body a_body_cells _ body_rows body_cells body_cells_n y1 y7 N hz91) wm_855 cv_X5_number [1, 2] [0, 3] [0, 2, 3, 1] (⟨rfl, rfl, rfl, by decide, rfl⟩ : Ix [1, 2] [0, 3] [0, 2, 3, 1] 4) rfl rfl rfl rfl rfl rfl ⟨rfl, rfl, by decide, by decide⟩ hl.1 rfl (Nat.le_of_ble_eq_true rfl) ⟨Nat.zero_le _, Nat.zero_le _⟩ dX1_addPoint_91 (fun H locs hP hD hS => ?_)
        refine lv_imul hx hb dX1_addPoint_94 ?_
        exact w_X1_addPoint_95 CX hK hsz (hK54 := ih) points rowsOfPoints y1 y2 y4 y5 y6 y7 ((y4 + 1) + y7) (y6 * z91) _ _ _ h hP hD hS (lv_sub hl [0, 1, 2, 3, 4, 5, 6] rfl)
      · have h := o_t c75 h
        refine lv_iconst (v := 0) hx hb dX1_addPoint_78 (by decide) ?_
        refine lv_goto (tgt := 95) hx hb dX1_addPoint_79 (by decide) ?_
        exact w_X1_addPoint_95 CX hK hsz (hK54 := ih) points rowsOfPoints y1 y2 y4 y5 y6 y7 ((y4 + 1) + y7) 0 _ _ _ h hP hD hS (lv_sub hl [0, 1, 2, 3, 4, 5, 6] rfl)
set_option maxHeartbeats 4000000 in
set_option maxRecDepth 100000 in
theorem w_X1_addPoint_41 (CX : Cx p m c cX1_addPoint 8 s args x0 RX1 meth none) (hK : va_K D vwCl (ty0 cI cJ cB) s) (hsz : s.heap.size = sz) : ∀ (points : Int32) (rowsOfPoints : Nat → Int32) (y1 : Int32) (y2 : Int32) (y3 : Int32) (y4 : Int32) (y5 : Int32) (s0 : Int32) (H : Heap) (locs : List Loc) (ls : Array Slot), f_X1_addPoint_41 N points body_rows body_cells body_cells_n rowsOfPoints y1 y2 y3 y4 y5 s0 = some z → va_P D vwCl (ws_X1_addPoint cI cJ cB a0 a_bench a_sum a_spans a_bound a_body a_body_cells a_rowsOfPoints points pointsPut takenOut body_rows body_cells body_cells_n rowsOfPoints) H → va_D (va_A ws0 sz) (ws_X1_addPoint cI cJ cB a0 a_bench a_sum a_spans a_bound a_body a_body_cells a_rowsOfPoints points pointsPut takenOut body_rows body_cells body_cells_n rowsOfPoints) → va_S (va_A ws0 sz) s.heap H locs → lv_has ls 8 [(0, .ref a0), (1, .int y1), (2, .int y2), (3, .int y3), (4, .int y4), (5, .int y5)] → W p l e rm_X1_addPoint s m args below meth c H locs 0 0 (MQ below (gQ D sz ws0 (ws_X1_addPoint cI cJ cB a0 a_bench a_sum a_spans a_bound a_body a_body_cells a_rowsOfPoints z.1 pointsPut takenOut body_rows body_cells body_cells_n z.2) none) args s 0 0 (va_A ws0 sz)) (F0 m 41 ls [.int s0]) := by
  obtain ⟨F, hr, hlk, hNw⟩ := id CX
  have hx := F.1
  have hb := F.2.1
  have hown := F.2.2.2.1
  have hA : ∀ q, s.heap.size ≤ q → va_A ws0 sz q := fun q hq => Or.inr (hsz ▸ hq)
  intro points rowsOfPoints y1 y2 y3 y4 y5 s0 H locs ls h hP hD hS hl
  unfold f_X1_addPoint_41 at h
  refine lv_istore (lv' := [(6, .int s0), (0, .ref a0), (1, .int y1), (2, .int y2), (3, .int y3), (4, .int y4), (5, .int y5)]) hx hb dX1_addPoint_41 hl (by decide) rfl (fun ls hl => ?_)
  refine lv_aload_n hx hb dX1_addPoint_43 rfl (lv_at hl 1 rfl) ?_
  refine r_get F hK hP 0 3 rfl inW_X1 wm_214 rfl (by decide) rfl dX1_addPoint_44 ?_
  refine lv_iload hx hb dX1_addPoint_47 (lv_at hl 5 rfl) ?_
  refine lv_iload_n hx hb dX1_addPoint_49 rfl (lv_at hl 4 rfl) ?_
  obtain ⟨hi50, h⟩ := o_ix h
  refine r_iast (wn := (ws_X1_addPoint cI cJ cB a0 a_bench a_sum a_spans a_bound a_body a_body_cells a_rowsOfPoints points pointsPut takenOut body_rows body_cells body_cells_n (upd rowsOfPoints y4.toNatClampNeg y3))) F hK hP hD hS 3 0 hi50 rfl rfl rfl dX1_addPoint_50 (fun H locs hP hD hS => ?_)
  refine lv_iconst (v := 0) hx hb dX1_addPoint_51 (by decide) ?_
  refine lv_istore (lv' := [(7, .int 0), (6, .int s0), (0, .ref a0), (1, .int y1), (2, .int y2), (3, .int y3), (4, .int y4), (5, .int y5)]) hx hb dX1_addPoint_52 hl (by decide) rfl (fun ls hl => ?_)
  exact w_X1_addPoint_54 CX hK hsz N points (upd rowsOfPoints y4.toNatClampNeg y3) y1 y2 y4 y5 s0 0 _ _ _ h hP hD hS (lv_sub hl [2, 3, 4, 6, 7, 1, 0] rfl)
end G_X1_addPoint
set_option maxHeartbeats 4000000 in
set_option maxRecDepth 100000 in
theorem c_X1_addPoint (l : Launch) (D : va_G) (cI cJ cB : ClassId) (a0 a_bench a_sum a_spans a_bound a_body a_body_cells a_rowsOfPoints : Nat) (sz : Nat) (points : Int32) (pointsPut : Int32) (takenOut : Int32) (body_rows : Int32) (body_cells : Nat → Int32) (body_cells_n : Nat) (rowsOfPoints : Nat → Int32) (x1 : Int32) (x2 : Int32) (x3 : Int32) (N : Nat) {z : (Int32) × (Nat → Int32)} (h : f_X1_addPoint N points body_rows body_cells body_cells_n rowsOfPoints x1 x2 x3 = some z) : Mg l yX1_addPoint cX1_addPoint 8 none rm_X1_addPoint D (ty0 cI cJ cB) [.ref a0, .int x1, .int x2, .int x3] sz (ws_X1_addPoint cI cJ cB a0 a_bench a_sum a_spans a_bound a_body a_body_cells a_rowsOfPoints points pointsPut takenOut body_rows body_cells body_cells_n rowsOfPoints) none (ws_X1_addPoint cI cJ cB a0 a_bench a_sum a_spans a_bound a_body a_body_cells a_rowsOfPoints z.1 pointsPut takenOut body_rows body_cells body_cells_n z.2) := by
  refine Mg.of (by decide) (Nat.le_of_ble_eq_true rfl) ?_
  intro p e s m below meth c CX hK hsz hP hD ls hl
  have CX : Cx p m c cX1_addPoint 8 s ([.ref a0, .int x1, .int x2, .int x3] : List Value).toArray (Cond.code yX1_addPoint cX1_addPoint 8 none) RX1 meth none := CX
  obtain ⟨F, hr, hlk, hNw⟩ := id CX
  have hx := F.1
  have hb := F.2.1
  have hown := F.2.2.2.1
  have hl : lv_has ls 8 [(0, .ref a0), (1, .int x1), (2, .int x2), (3, .int x3)] := hl
  have hS : va_S (va_A (ws_X1_addPoint cI cJ cB a0 a_bench a_sum a_spans a_bound a_body a_body_cells a_rowsOfPoints points pointsPut takenOut body_rows body_cells body_cells_n rowsOfPoints) sz) s.heap s.heap [] := va_S.rf
  have hA : ∀ q, s.heap.size ≤ q → va_A (ws_X1_addPoint cI cJ cB a0 a_bench a_sum a_spans a_bound a_body a_body_cells a_rowsOfPoints points pointsPut takenOut body_rows body_cells body_cells_n rowsOfPoints) sz q := fun q hq => Or.inr (hsz ▸ hq)
  unfold f_X1_addPoint at h
  refine lv_aload_n hx hb dX1_addPoint_0 rfl (lv_at hl 0 rfl) ?_
  refine r_get F hK hP 0 6 rfl inW_X1 wm_217 rfl (by decide) rfl dX1_addPoint_1 ?_
  refine lv_sipush (v := 400) hx hb dX1_addPoint_4 (by decide) ?_
  refine lv_icmp_le (tgt := 11) hx hb dX1_addPoint_7 (by decide) (fun c7 => ?_) (fun c7 => ?_)
  · have h := o_t c7 h
    refine lv_aload_n hx hb dX1_addPoint_11 rfl (lv_at hl 0 rfl) ?_
    refine r_get F hK hP 0 6 rfl inW_X1 wm_217 rfl (by decide) rfl dX1_addPoint_12 ?_
    refine lv_bipush (v := 11) hx hb dX1_addPoint_15 (by decide) ?_
    refine lv_imul hx hb dX1_addPoint_17 ?_
    refine lv_istore (lv' := [(4, .int (points * 11)), (0, .ref a0), (1, .int x1), (2, .int x2), (3, .int x3)]) hx hb dX1_addPoint_18 hl (by decide) rfl (fun ls hl => ?_)
    refine lv_aload_n hx hb dX1_addPoint_20 rfl (lv_at hl 1 rfl) ?_
    refine r_get F hK hP 0 1 rfl inW_X1 wm_212 rfl (by decide) rfl dX1_addPoint_21 ?_
    refine lv_iload_n hx hb dX1_addPoint_24 rfl (lv_at hl 2 rfl) ?_
    refine lv_iload_n hx hb dX1_addPoint_25 rfl (lv_at hl 3 rfl) ?_
    obtain ⟨z26, hz26, h⟩ := o_b h
    refine k_v (wn := (ws_X1_addPoint cI cJ cB a0 a_bench a_sum a_spans a_bound a_body a_body_cells a_rowsOfPoints points pointsPut takenOut body_rows body_cells body_cells_n rowsOfPoints)) (As := [.int x1, .int x2]) (rest := []) F hNw hK hP hD hS hA (c_X5_number l D cI cJ cB a_body a_body_cells _ body_rows body_cells body_cells_n x1 x2 N hz26) wm_855 cv_X5_number [1, 2] [0, 3] [0, 2, 3, 1] (⟨rfl, rfl, rfl, by decide, rfl⟩ : Ix [1, 2] [0, 3] [0, 2, 3, 1] 4) rfl rfl rfl rfl rfl rfl ⟨rfl, rfl, by decide, by decide⟩ hl.1 rfl (Nat.le_of_ble_eq_true rfl) ⟨Nat.zero_le _, Nat.zero_le _⟩ dX1_addPoint_26 (fun H locs hP hD hS => ?_)
    refine lv_istore (lv' := [(5, .int z26), (4, .int (points * 11)), (0, .ref a0), (1, .int x1), (2, .int x2), (3, .int x3)]) hx hb dX1_addPoint_29 hl (by decide) rfl (fun ls hl => ?_)
    refine lv_iload hx hb dX1_addPoint_31 (lv_at hl 0 rfl) ?_
    refine lv_if_ge (tgt := 40) hx hb dX1_addPoint_33 (by decide) (fun c33 => ?_) (fun c33 => ?_)
    · have h := o_t c33 h
      refine lv_iconst (v := (-1)) hx hb dX1_addPoint_40 (by decide) ?_
      exact w_X1_addPoint_41 CX hK hsz points rowsOfPoints x1 x2 x3 (points * 11) z26 (-1) _ _ _ h hP hD hS (lv_sub hl [2, 3, 4, 5, 1, 0] rfl)
    · have h := o_f c33 h
      refine lv_iconst (v := 1) hx hb dX1_addPoint_36 (by decide) ?_
      refine lv_goto (tgt := 41) hx hb dX1_addPoint_37 (by decide) ?_
      exact w_X1_addPoint_41 CX hK hsz points rowsOfPoints x1 x2 x3 (points * 11) z26 1 _ _ _ h hP hD hS (lv_sub hl [2, 3, 4, 5, 1, 0] rfl)
  · have h := o_f c7 h
    obtain rfl := Option.some.inj h
    exact r_vret F hr hlk dX1_addPoint_10 hsz hP hD hS
section G_X1_putIn
abbrev ws_X1_putIn (cI cJ cB : ClassId) (a0 a_spans a_bound a_bench a_bench_tree a_bench_tree_cells a_bench_starts a_bench_looses a_body a_body_cells a_sum a_sum_numbers a_rowsOfPoints : Nat) (points : Int32) (pointsPut : Int32) (takenOut : Int32) (bench_parts : Int32) (bench_tree_rows : Int32) (bench_tree_cells : Nat → Int32) (bench_tree_cells_n : Nat) (bench_starts : Nat → Int32) (bench_looses : Nat → Int32) (body_rows : Int32) (body_cells : Nat → Int32) (body_cells_n : Nat) (sum_numbers : Nat → Int64) (rowsOfPoints : Nat → Int32) : va_W := [(a0, .inr (3, [.ref a_bench, .ref a_body, .ref a_sum, .ref a_rowsOfPoints, .ref a_spans, .ref a_bound, .int points, .int pointsPut, .int takenOut])), (a_bench, .inr (2, [.ref a_bench_tree, .ref a_bench_starts, .ref a_bench_looses, .int bench_parts])), (a_bench_tree, .inr (7, [.ref a_bench_tree_cells, .int bench_tree_rows])), (a_bench_tree_cells, .inl (cI, bench_tree_cells_n, .inl bench_tree_cells)), (a_bench_starts, .inl (cI, 402, .inl bench_starts)), (a_bench_looses, .inl (cI, 402, .inl bench_looses)), (a_body, .inr (7, [.ref a_body_cells, .int body_rows])), (a_body_cells, .inl (cI, body_cells_n, .inl body_cells)), (a_sum, .inr (6, [.ref a_sum_numbers])), (a_sum_numbers, .inl (cJ, 9, .inr (.inl sum_numbers))), (a_rowsOfPoints, .inl (cI, 4411, .inl rowsOfPoints))]
abbrev rm_X1_putIn : Room := { frames := 5, cells := 0, slots := 0, locals := 125 }
def f_X1_putIn_125 (K2 : Int32 → Int32 → (Nat → Int32) → Nat → (Nat → Int32) → (Nat → Int32) → Int32 → (Nat → Int32) → Nat → (Nat → Int64) → (Nat → Int32) → Int32 → Int32 → Int32 → Option (Int32 × (Int32) × (Int32) × (Nat → Int32) × (Nat → Int32) × (Nat → Int32) × (Nat → Int64))) (N : Nat) (bench_parts : Int32) (bench_tree_rows : Int32) (bench_tree_cells : Nat → Int32) (bench_tree_cells_n : Nat) (bench_starts : Nat → Int32) (bench_looses : Nat → Int32) (body_rows : Int32) (body_cells : Nat → Int32) (body_cells_n : Nat) (sum_numbers : Nat → Int64) (rowsOfPoints : Nat → Int32) (y1 : Int32) (y2 : Int32) (y3 : Int32) : Option (Int32 × (Int32) × (Int32) × (Nat → Int32) × (Nat → Int32) × (Nat → Int32) × (Nat → Int64)) := K2 bench_parts bench_tree_rows bench_tree_cells bench_tree_cells_n bench_starts bench_looses body_rows body_cells body_cells_n sum_numbers rowsOfPoints y1 y2 (y3 + 1)
def f_X1_putIn_103 (K2 : Int32 → Int32 → (Nat → Int32) → Nat → (Nat → Int32) → (Nat → Int32) → Int32 → (Nat → Int32) → Nat → (Nat → Int64) → (Nat → Int32) → Int32 → Int32 → Int32 → Option (Int32 × (Int32) × (Int32) × (Nat → Int32) × (Nat → Int32) × (Nat → Int32) × (Nat → Int64))) (N : Nat) (bench_parts : Int32) (bench_tree_rows : Int32) (bench_tree_cells : Nat → Int32) (bench_tree_cells_n : Nat) (bench_starts : Nat → Int32) (bench_looses : Nat → Int32) (body_rows : Int32) (body_cells : Nat → Int32) (body_cells_n : Nat) (sum_numbers : Nat → Int64) (rowsOfPoints : Nat → Int32) (y1 : Int32) (y2 : Int32) (y3 : Int32) (s1 : Int32) : Option (Int32 × (Int32) × (Int32) × (Nat → Int32) × (Nat → Int32) × (Nat → Int32) × (Nat → Int64)) := (f_X0_push N bench_parts bench_tree_rows bench_tree_cells bench_tree_cells_n bench_starts bench_looses s1).bind (fun z103 => f_X1_putIn_125 K2 N z103.1 z103.2.1 z103.2.2.1 bench_tree_cells_n z103.2.2.2.1 z103.2.2.2.2 body_rows body_cells body_cells_n sum_numbers rowsOfPoints y1 y2 y3)
def f_X1_putIn_98 (K2 : Int32 → Int32 → (Nat → Int32) → Nat → (Nat → Int32) → (Nat → Int32) → Int32 → (Nat → Int32) → Nat → (Nat → Int64) → (Nat → Int32) → Int32 → Int32 → Int32 → Option (Int32 × (Int32) × (Int32) × (Nat → Int32) × (Nat → Int32) × (Nat → Int32) × (Nat → Int64))) (N : Nat) (bench_parts : Int32) (bench_tree_rows : Int32) (bench_tree_cells : Nat → Int32) (bench_tree_cells_n : Nat) (bench_starts : Nat → Int32) (bench_looses : Nat → Int32) (body_rows : Int32) (body_cells : Nat → Int32) (body_cells_n : Nat) (sum_numbers : Nat → Int64) (rowsOfPoints : Nat → Int32) (y1 : Int32) (y2 : Int32) (y3 : Int32) : Option (Int32 × (Int32) × (Int32) × (Nat → Int32) × (Nat → Int32) × (Nat → Int32) × (Nat → Int64)) := f_X1_putIn_103 K2 N bench_parts bench_tree_rows bench_tree_cells bench_tree_cells_n bench_starts bench_looses body_rows body_cells body_cells_n sum_numbers rowsOfPoints y1 y2 y3 0
def f_X1_putIn_102 (K2 : Int32 → Int32 → (Nat → Int32) → Nat → (Nat → Int32) → (Nat → Int32) → Int32 → (Nat → Int32) → Nat → (Nat → Int64) → (Nat → Int32) → Int32 → Int32 → Int32 → Option (Int32 × (Int32) × (Int32) × (Nat → Int32) × (Nat → Int32) × (Nat → Int32) × (Nat → Int64))) (N : Nat) (bench_parts : Int32) (bench_tree_rows : Int32) (bench_tree_cells : Nat → Int32) (bench_tree_cells_n : Nat) (bench_starts : Nat → Int32) (bench_looses : Nat → Int32) (body_rows : Int32) (body_cells : Nat → Int32) (body_cells_n : Nat) (sum_numbers : Nat → Int64) (rowsOfPoints : Nat → Int32) (y1 : Int32) (y2 : Int32) (y3 : Int32) : Option (Int32 × (Int32) × (Int32) × (Nat → Int32) × (Nat → Int32) × (Nat → Int32) × (Nat → Int64)) := f_X1_putIn_103 K2 N bench_parts bench_tree_rows bench_tree_cells bench_tree_cells_n bench_starts bench_looses body_rows body_cells body_cells_n sum_numbers rowsOfPoints y1 y2 y3 1
def f_X1_putIn_2 (N : Nat) : Nat → Int32 → Int32 → (Nat → Int32) → Nat → (Nat → Int32) → (Nat → Int32) → Int32 → (Nat → Int32) → Nat → (Nat → Int64) → (Nat → Int32) → Int32 → Int32 → Int32 → Option (Int32 × (Int32) × (Int32) × (Nat → Int32) × (Nat → Int32) × (Nat → Int32) × (Nat → Int64))
  | 0 => fun _ _ _ _ _ _ _ _ _ _ _ _ _ _ => none
  | n + 1 => fun bench_parts bench_tree_rows bench_tree_cells bench_tree_cells_n bench_starts bench_looses body_rows body_cells body_cells_n sum_numbers rowsOfPoints y1 y2 y3 => ifb (body_rows ≤ y3) (some (1, bench_parts, bench_tree_rows, bench_tree_cells, bench_starts, bench_looses, sum_numbers)) ((f_X5_kind N body_rows body_cells body_cells_n y3).bind (fun z18 => (f_X5_number N body_rows body_cells body_cells_n y3 y1).bind (fun z29 => ifb (z18 < 6) (ifb (z29 = 0) ((f_X0_pushRow N bench_parts bench_tree_rows bench_tree_cells bench_tree_cells_n bench_starts bench_looses body_rows body_cells body_cells_n y3).bind (fun z67 => f_X1_putIn_125 (f_X1_putIn_2 N n) N z67.1 z67.2.1 z67.2.2.1 bench_tree_cells_n z67.2.2.2.1 z67.2.2.2.2 body_rows body_cells body_cells_n sum_numbers rowsOfPoints y1 y2 y3)) (ifb (y2 = 0) (ifb (z18 = 3) (f_X1_putIn_98 (f_X1_putIn_2 N n) N bench_parts bench_tree_rows bench_tree_cells bench_tree_cells_n bench_starts bench_looses body_rows body_cells body_cells_n sum_numbers rowsOfPoints y1 y2 y3) (ifb (z18 < 4) (f_X1_putIn_102 (f_X1_putIn_2 N n) N bench_parts bench_tree_rows bench_tree_cells bench_tree_cells_n bench_starts bench_looses body_rows body_cells body_cells_n sum_numbers rowsOfPoints y1 y2 y3) (ifb (z29 ≤ 0) (f_X1_putIn_102 (f_X1_putIn_2 N n) N bench_parts bench_tree_rows bench_tree_cells bench_tree_cells_n bench_starts bench_looses body_rows body_cells body_cells_n sum_numbers rowsOfPoints y1 y2 y3) (f_X1_putIn_98 (f_X1_putIn_2 N n) N bench_parts bench_tree_rows bench_tree_cells bench_tree_cells_n bench_starts bench_looses body_rows body_cells body_cells_n sum_numbers rowsOfPoints y1 y2 y3)))) ((f_X1_replace N bench_parts bench_tree_rows bench_tree_cells bench_tree_cells_n bench_starts bench_looses sum_numbers rowsOfPoints body_rows body_cells body_cells_n y3 y1 y2).bind (fun z117 => ifb (z117.1 = 0) (some (0, z117.2.1, z117.2.2.1, z117.2.2.2.1, z117.2.2.2.2.1, z117.2.2.2.2.2.1, z117.2.2.2.2.2.2)) (f_X1_putIn_125 (f_X1_putIn_2 N n) N z117.2.1 z117.2.2.1 z117.2.2.2.1 bench_tree_cells_n z117.2.2.2.2.1 z117.2.2.2.2.2.1 body_rows body_cells body_cells_n z117.2.2.2.2.2.2 rowsOfPoints y1 y2 y3))))) ((f_X0_join N bench_parts bench_tree_rows bench_tree_cells bench_tree_cells_n bench_starts bench_looses z18).bind (fun z47 => f_X1_putIn_125 (f_X1_putIn_2 N n) N z47.1 z47.2.1 z47.2.2.1 bench_tree_cells_n bench_starts z47.2.2.2 body_rows body_cells body_cells_n sum_numbers rowsOfPoints y1 y2 y3)))))
def f_X1_putIn (N : Nat) (bench_parts : Int32) (bench_tree_rows : Int32) (bench_tree_cells : Nat → Int32) (bench_tree_cells_n : Nat) (bench_starts : Nat → Int32) (bench_looses : Nat → Int32) (body_rows : Int32) (body_cells : Nat → Int32) (body_cells_n : Nat) (sum_numbers : Nat → Int64) (rowsOfPoints : Nat → Int32) (x1 : Int32) (x2 : Int32) : Option (Int32 × (Int32) × (Int32) × (Nat → Int32) × (Nat → Int32) × (Nat → Int32) × (Nat → Int64)) := f_X1_putIn_2 N N bench_parts bench_tree_rows bench_tree_cells bench_tree_cells_n bench_starts bench_looses body_rows body_cells body_cells_n sum_numbers rowsOfPoints x1 x2 0
variable {p : Program} {l : Launch} {e : Env} {s : State} {m : MethodId} {below : List Frame} {meth : Method} {c : Code} {args : Array Value} {x0 : Cond} {D : va_G} {cI cJ cB : ClassId} {sz N : Nat} {ws0 : va_W} {a0 a_spans a_bound a_bench a_bench_tree a_bench_tree_cells a_bench_starts a_bench_looses a_body a_body_cells a_sum a_sum_numbers a_rowsOfPoints : Nat} {points : Int32} {pointsPut : Int32} {takenOut : Int32} {bench_tree_cells_n : Nat} {body_rows : Int32} {body_cells : Nat → Int32} {body_cells_n : Nat} {rowsOfPoints : Nat → Int32} {z : Int32 × (Int32) × (Int32) × (Nat → Int32) × (Nat → Int32) × (Nat → Int32) × (Nat → Int64)}
set_option maxHeartbeats 4000000 in
set_option maxRecDepth 100000 in
theorem w_X1_putIn_125 (CX : Cx p m c cX1_putIn 6 s args x0 RX1 meth (some .boolean)) (hK : va_K D vwCl (ty0 cI cJ cB) s) (hsz : s.heap.size = sz) {K2 : Int32 → Int32 → (Nat → Int32) → Nat → (Nat → Int32) → (Nat → Int32) → Int32 → (Nat → Int32) → Nat → (Nat → Int64) → (Nat → Int32) → Int32 → Int32 → Int32 → Option (Int32 × (Int32) × (Int32) × (Nat → Int32) × (Nat → Int32) × (Nat → Int32) × (Nat → Int64))} (hK2 : ∀ (bench_parts : Int32) (bench_tree_rows : Int32) (bench_tree_cells : Nat → Int32) (bench_starts : Nat → Int32) (bench_looses : Nat → Int32) (sum_numbers : Nat → Int64) (y1 : Int32) (y2 : Int32) (y3 : Int32) (H : Heap) (locs : List Loc) (ls : Array Slot), K2 bench_parts bench_tree_rows bench_tree_cells bench_tree_cells_n bench_starts bench_looses body_rows body_cells body_cells_n sum_numbers rowsOfPoints y1 y2 y3 = some z → va_P D vwCl (ws_X1_putIn cI cJ cB a0 a_spans a_bound a_bench a_bench_tree a_bench_tree_cells a_bench_starts a_bench_looses a_body a_body_cells a_sum a_sum_numbers a_rowsOfPoints points pointsPut takenOut bench_parts bench_tree_rows bench_tree_cells bench_tree_cells_n bench_starts bench_looses body_rows body_cells body_cells_n sum_numbers rowsOfPoints) H → va_D (va_A ws0 sz) (ws_X1_putIn cI cJ cB a0 a_spans a_bound a_bench a_bench_tree a_bench_tree_cells a_bench_starts a_bench_looses a_body a_body_cells a_sum a_sum_numbers a_rowsOfPoints points pointsPut takenOut bench_parts bench_tree_rows bench_tree_cells bench_tree_cells_n bench_starts bench_looses body_rows body_cells body_cells_n sum_numbers rowsOfPoints) → va_S (va_A ws0 sz) s.heap H locs → lv_has ls 6 [(0, .ref a0), (1, .int y1), (2, .int y2), (3, .int y3)] → W p l e rm_X1_putIn s m args below meth c H locs 0 0 (MQ below (gQ D sz ws0 (ws_X1_putIn cI cJ cB a0 a_spans a_bound a_bench a_bench_tree a_bench_tree_cells a_bench_starts a_bench_looses a_body a_body_cells a_sum a_sum_numbers a_rowsOfPoints points pointsPut takenOut z.2.1 z.2.2.1 z.2.2.2.1 bench_tree_cells_n z.2.2.2.2.1 z.2.2.2.2.2.1 body_rows body_cells body_cells_n z.2.2.2.2.2.2 rowsOfPoints) (some (.int z.1))) args s 0 0 (va_A ws0 sz)) (F0 m 2 ls [])) : ∀ (bench_parts : Int32) (bench_tree_rows : Int32) (bench_tree_cells : Nat → Int32) (bench_starts : Nat → Int32) (bench_looses : Nat → Int32) (sum_numbers : Nat → Int64) (y1 : Int32) (y2 : Int32) (y3 : Int32) (H : Heap) (locs : List Loc) (ls : Array Slot), f_X1_putIn_125 K2 N bench_parts bench_tree_rows bench_tree_cells bench_tree_cells_n bench_starts bench_looses body_rows body_cells body_cells_n sum_numbers rowsOfPoints y1 y2 y3 = some z → va_P D vwCl (ws_X1_putIn cI cJ cB a0 a_spans a_bound a_bench a_bench_tree a_bench_tree_cells a_bench_starts a_bench_looses a_body a_body_cells a_sum a_sum_numbers a_rowsOfPoints points pointsPut takenOut bench_parts bench_tree_rows bench_tree_cells bench_tree_cells_n bench_starts bench_looses body_rows body_cells body_cells_n sum_numbers rowsOfPoints) H → va_D (va_A ws0 sz) (ws_X1_putIn cI cJ cB a0 a_spans a_bound a_bench a_bench_tree a_bench_tree_cells a_bench_starts a_bench_looses a_body a_body_cells a_sum a_sum_numbers a_rowsOfPoints points pointsPut takenOut bench_parts bench_tree_rows bench_tree_cells bench_tree_cells_n bench_starts bench_looses body_rows body_cells body_cells_n sum_numbers rowsOfPoints) → va_S (va_A ws0 sz) s.heap H locs → lv_has ls 6 [(0, .ref a0), (1, .int y1), (2, .int y2), (3, .int y3)] → W p l e rm_X1_putIn s m args below meth c H locs 0 0 (MQ below (gQ D sz ws0 (ws_X1_putIn cI cJ cB a0 a_spans a_bound a_bench a_bench_tree a_bench_tree_cells a_bench_starts a_bench_looses a_body a_body_cells a_sum a_sum_numbers a_rowsOfPoints points pointsPut takenOut z.2.1 z.2.2.1 z.2.2.2.1 bench_tree_cells_n z.2.2.2.2.1 z.2.2.2.2.2.1 body_rows body_cells body_cells_n z.2.2.2.2.2.2 rowsOfPoints) (some (.int z.1))) args s 0 0 (va_A ws0 sz)) (F0 m 125 ls []) := by
  obtain ⟨F, hr, hlk, hNw⟩ := id CX
  have hx := F.1
  have hb := F.2.1
  have hown := F.2.2.2.1
  have hA : ∀ q, s.heap.size ≤ q → va_A ws0 sz q := fun q hq => Or.inr (hsz ▸ hq)
  intro bench_parts bench_tree_rows bench_tree_cells bench_starts bench_looses sum_numbers y1 y2 y3 H locs ls h hP hD hS hl
  unfold f_X1_putIn_125 at h
  refine lv_iinc (v := y3 + 1) (lv' := [(3, .int (y3 + 1)), (0, .ref a0), (1, .int y1), (2, .int y2)]) hx hb dX1_putIn_125 hl (k := 3) rfl rfl (by decide) rfl (fun ls hl => ?_)
  refine lv_goto (tgt := 2) hx hb dX1_putIn_128 (by decide) ?_
  exact hK2 bench_parts bench_tree_rows bench_tree_cells bench_starts bench_looses sum_numbers y1 y2 (y3 + 1) _ _ _ h hP hD hS (lv_sub hl [1, 2, 3, 0] rfl)
set_option maxHeartbeats 4000000 in
set_option maxRecDepth 100000 in
theorem w_X1_putIn_103 (CX : Cx p m c cX1_putIn 6 s args x0 RX1 meth (some .boolean)) (hK : va_K D vwCl (ty0 cI cJ cB) s) (hsz : s.heap.size = sz) {K2 : Int32 → Int32 → (Nat → Int32) → Nat → (Nat → Int32) → (Nat → Int32) → Int32 → (Nat → Int32) → Nat → (Nat → Int64) → (Nat → Int32) → Int32 → Int32 → Int32 → Option (Int32 × (Int32) × (Int32) × (Nat → Int32) × (Nat → Int32) × (Nat → Int32) × (Nat → Int64))} (hK2 : ∀ (bench_parts : Int32) (bench_tree_rows : Int32) (bench_tree_cells : Nat → Int32) (bench_starts : Nat → Int32) (bench_looses : Nat → Int32) (sum_numbers : Nat → Int64) (y1 : Int32) (y2 : Int32) (y3 : Int32) (H : Heap) (locs : List Loc) (ls : Array Slot), K2 bench_parts bench_tree_rows bench_tree_cells bench_tree_cells_n bench_starts bench_looses body_rows body_cells body_cells_n sum_numbers rowsOfPoints y1 y2 y3 = some z → va_P D vwCl (ws_X1_putIn cI cJ cB a0 a_spans a_bound a_bench a_bench_tree a_bench_tree_cells a_bench_starts a_bench_looses a_body a_body_cells a_sum a_sum_numbers a_rowsOfPoints points pointsPut takenOut bench_parts bench_tree_rows bench_tree_cells bench_tree_cells_n bench_starts bench_looses body_rows body_cells body_cells_n sum_numbers rowsOfPoints) H → va_D (va_A ws0 sz) (ws_X1_putIn cI cJ cB a0 a_spans a_bound a_bench a_bench_tree a_bench_tree_cells a_bench_starts a_bench_looses a_body a_body_cells a_sum a_sum_numbers a_rowsOfPoints points pointsPut takenOut bench_parts bench_tree_rows bench_tree_cells bench_tree_cells_n bench_starts bench_looses body_rows body_cells body_cells_n sum_numbers rowsOfPoints) → va_S (va_A ws0 sz) s.heap H locs → lv_has ls 6 [(0, .ref a0), (1, .int y1), (2, .int y2), (3, .int y3)] → W p l e rm_X1_putIn s m args below meth c H locs 0 0 (MQ below (gQ D sz ws0 (ws_X1_putIn cI cJ cB a0 a_spans a_bound a_bench a_bench_tree a_bench_tree_cells a_bench_starts a_bench_looses a_body a_body_cells a_sum a_sum_numbers a_rowsOfPoints points pointsPut takenOut z.2.1 z.2.2.1 z.2.2.2.1 bench_tree_cells_n z.2.2.2.2.1 z.2.2.2.2.2.1 body_rows body_cells body_cells_n z.2.2.2.2.2.2 rowsOfPoints) (some (.int z.1))) args s 0 0 (va_A ws0 sz)) (F0 m 2 ls [])) : ∀ (bench_parts : Int32) (bench_tree_rows : Int32) (bench_tree_cells : Nat → Int32) (bench_starts : Nat → Int32) (bench_looses : Nat → Int32) (sum_numbers : Nat → Int64) (y1 : Int32) (y2 : Int32) (y3 : Int32) (s1 : Int32) (H : Heap) (locs : List Loc) (ls : Array Slot), f_X1_putIn_103 K2 N bench_parts bench_tree_rows bench_tree_cells bench_tree_cells_n bench_starts bench_looses body_rows body_cells body_cells_n sum_numbers rowsOfPoints y1 y2 y3 s1 = some z → va_P D vwCl (ws_X1_putIn cI cJ cB a0 a_spans a_bound a_bench a_bench_tree a_bench_tree_cells a_bench_starts a_bench_looses a_body a_body_cells a_sum a_sum_numbers a_rowsOfPoints points pointsPut takenOut bench_parts bench_tree_rows bench_tree_cells bench_tree_cells_n bench_starts bench_looses body_rows body_cells body_cells_n sum_numbers rowsOfPoints) H → va_D (va_A ws0 sz) (ws_X1_putIn cI cJ cB a0 a_spans a_bound a_bench a_bench_tree a_bench_tree_cells a_bench_starts a_bench_looses a_body a_body_cells a_sum a_sum_numbers a_rowsOfPoints points pointsPut takenOut bench_parts bench_tree_rows bench_tree_cells bench_tree_cells_n bench_starts bench_looses body_rows body_cells body_cells_n sum_numbers rowsOfPoints) → va_S (va_A ws0 sz) s.heap H locs → lv_has ls 6 [(0, .ref a0), (1, .int y1), (2, .int y2), (3, .int y3)] → W p l e rm_X1_putIn s m args below meth c H locs 0 0 (MQ below (gQ D sz ws0 (ws_X1_putIn cI cJ cB a0 a_spans a_bound a_bench a_bench_tree a_bench_tree_cells a_bench_starts a_bench_looses a_body a_body_cells a_sum a_sum_numbers a_rowsOfPoints points pointsPut takenOut z.2.1 z.2.2.1 z.2.2.2.1 bench_tree_cells_n z.2.2.2.2.1 z.2.2.2.2.2.1 body_rows body_cells body_cells_n z.2.2.2.2.2.2 rowsOfPoints) (some (.int z.1))) args s 0 0 (va_A ws0 sz)) (F0 m 103 ls [.int s1, .ref a_bench]) := by
  obtain ⟨F, hr, hlk, hNw⟩ := id CX
  have hx := F.1
  have hb := F.2.1
  have hown := F.2.2.2.1
  have hA : ∀ q, s.heap.size ≤ q → va_A ws0 sz q := fun q hq => Or.inr (hsz ▸ hq)
  intro bench_parts bench_tree_rows bench_tree_cells bench_starts bench_looses sum_numbers y1 y2 y3 s1 H locs ls h hP hD hS hl
  unfold f_X1_putIn_103 at h
  obtain ⟨z103, hz103, h⟩ := o_b h
  refine k_v (wn := (ws_X1_putIn cI cJ cB a0 a_spans a_bound a_bench a_bench_tree a_bench_tree_cells a_bench_starts a_bench_looses a_body a_body_cells a_sum a_sum_numbers a_rowsOfPoints points pointsPut takenOut z103.1 z103.2.1 z103.2.2.1 bench_tree_cells_n z103.2.2.2.1 z103.2.2.2.2 body_rows body_cells body_cells_n sum_numbers rowsOfPoints)) (As := [.int s1]) (rest := []) F hNw hK hP hD hS hA (c_X0_push l D cI cJ cB a_bench a_bench_tree a_bench_tree_cells a_bench_starts a_bench_looses _ bench_parts bench_tree_rows bench_tree_cells bench_tree_cells_n bench_starts bench_looses s1 N hz103) wm_886 cv_X0_push [1, 2, 3, 4, 5] [0, 6, 7, 8, 9, 10] [0, 6, 7, 8, 9, 10, 1, 2, 3, 4, 5] (⟨rfl, rfl, rfl, by decide, rfl⟩ : Ix [1, 2, 3, 4, 5] [0, 6, 7, 8, 9, 10] [0, 6, 7, 8, 9, 10, 1, 2, 3, 4, 5] 11) rfl rfl rfl rfl rfl rfl ⟨rfl, rfl, by decide, by decide⟩ hl.1 rfl (Nat.le_of_ble_eq_true rfl) ⟨Nat.zero_le _, Nat.zero_le _⟩ dX1_putIn_103 (fun H locs hP hD hS => ?_)
  refine lv_goto (tgt := 125) hx hb dX1_putIn_106 (by decide) ?_
  exact w_X1_putIn_125 CX hK hsz (hK2 := hK2) z103.1 z103.2.1 z103.2.2.1 z103.2.2.2.1 z103.2.2.2.2 sum_numbers y1 y2 y3 _ _ _ h hP hD hS (lv_sub hl [0, 1, 2, 3] rfl)
set_option maxHeartbeats 4000000 in
set_option maxRecDepth 100000 in
theorem w_X1_putIn_98 (CX : Cx p m c cX1_putIn 6 s args x0 RX1 meth (some .boolean)) (hK : va_K D vwCl (ty0 cI cJ cB) s) (hsz : s.heap.size = sz) {K2 : Int32 → Int32 → (Nat → Int32) → Nat → (Nat → Int32) → (Nat → Int32) → Int32 → (Nat → Int32) → Nat → (Nat → Int64) → (Nat → Int32) → Int32 → Int32 → Int32 → Option (Int32 × (Int32) × (Int32) × (Nat → Int32) × (Nat → Int32) × (Nat → Int32) × (Nat → Int64))} (hK2 : ∀ (bench_parts : Int32) (bench_tree_rows : Int32) (bench_tree_cells : Nat → Int32) (bench_starts : Nat → Int32) (bench_looses : Nat → Int32) (sum_numbers : Nat → Int64) (y1 : Int32) (y2 : Int32) (y3 : Int32) (H : Heap) (locs : List Loc) (ls : Array Slot), K2 bench_parts bench_tree_rows bench_tree_cells bench_tree_cells_n bench_starts bench_looses body_rows body_cells body_cells_n sum_numbers rowsOfPoints y1 y2 y3 = some z → va_P D vwCl (ws_X1_putIn cI cJ cB a0 a_spans a_bound a_bench a_bench_tree a_bench_tree_cells a_bench_starts a_bench_looses a_body a_body_cells a_sum a_sum_numbers a_rowsOfPoints points pointsPut takenOut bench_parts bench_tree_rows bench_tree_cells bench_tree_cells_n bench_starts bench_looses body_rows body_cells body_cells_n sum_numbers rowsOfPoints) H → va_D (va_A ws0 sz) (ws_X1_putIn cI cJ cB a0 a_spans a_bound a_bench a_bench_tree a_bench_tree_cells a_bench_starts a_bench_looses a_body a_body_cells a_sum a_sum_numbers a_rowsOfPoints points pointsPut takenOut bench_parts bench_tree_rows bench_tree_cells bench_tree_cells_n bench_starts bench_looses body_rows body_cells body_cells_n sum_numbers rowsOfPoints) → va_S (va_A ws0 sz) s.heap H locs → lv_has ls 6 [(0, .ref a0), (1, .int y1), (2, .int y2), (3, .int y3)] → W p l e rm_X1_putIn s m args below meth c H locs 0 0 (MQ below (gQ D sz ws0 (ws_X1_putIn cI cJ cB a0 a_spans a_bound a_bench a_bench_tree a_bench_tree_cells a_bench_starts a_bench_looses a_body a_body_cells a_sum a_sum_numbers a_rowsOfPoints points pointsPut takenOut z.2.1 z.2.2.1 z.2.2.2.1 bench_tree_cells_n z.2.2.2.2.1 z.2.2.2.2.2.1 body_rows body_cells body_cells_n z.2.2.2.2.2.2 rowsOfPoints) (some (.int z.1))) args s 0 0 (va_A ws0 sz)) (F0 m 2 ls [])) : ∀ (bench_parts : Int32) (bench_tree_rows : Int32) (bench_tree_cells : Nat → Int32) (bench_starts : Nat → Int32) (bench_looses : Nat → Int32) (sum_numbers : Nat → Int64) (y1 : Int32) (y2 : Int32) (y3 : Int32) (H : Heap) (locs : List Loc) (ls : Array Slot), f_X1_putIn_98 K2 N bench_parts bench_tree_rows bench_tree_cells bench_tree_cells_n bench_starts bench_looses body_rows body_cells body_cells_n sum_numbers rowsOfPoints y1 y2 y3 = some z → va_P D vwCl (ws_X1_putIn cI cJ cB a0 a_spans a_bound a_bench a_bench_tree a_bench_tree_cells a_bench_starts a_bench_looses a_body a_body_cells a_sum a_sum_numbers a_rowsOfPoints points pointsPut takenOut bench_parts bench_tree_rows bench_tree_cells bench_tree_cells_n bench_starts bench_looses body_rows body_cells body_cells_n sum_numbers rowsOfPoints) H → va_D (va_A ws0 sz) (ws_X1_putIn cI cJ cB a0 a_spans a_bound a_bench a_bench_tree a_bench_tree_cells a_bench_starts a_bench_looses a_body a_body_cells a_sum a_sum_numbers a_rowsOfPoints points pointsPut takenOut bench_parts bench_tree_rows bench_tree_cells bench_tree_cells_n bench_starts bench_looses body_rows body_cells body_cells_n sum_numbers rowsOfPoints) → va_S (va_A ws0 sz) s.heap H locs → lv_has ls 6 [(0, .ref a0), (1, .int y1), (2, .int y2), (3, .int y3)] → W p l e rm_X1_putIn s m args below meth c H locs 0 0 (MQ below (gQ D sz ws0 (ws_X1_putIn cI cJ cB a0 a_spans a_bound a_bench a_bench_tree a_bench_tree_cells a_bench_starts a_bench_looses a_body a_body_cells a_sum a_sum_numbers a_rowsOfPoints points pointsPut takenOut z.2.1 z.2.2.1 z.2.2.2.1 bench_tree_cells_n z.2.2.2.2.1 z.2.2.2.2.2.1 body_rows body_cells body_cells_n z.2.2.2.2.2.2 rowsOfPoints) (some (.int z.1))) args s 0 0 (va_A ws0 sz)) (F0 m 98 ls [.ref a_bench]) := by
  obtain ⟨F, hr, hlk, hNw⟩ := id CX
  have hx := F.1
  have hb := F.2.1
  have hown := F.2.2.2.1
  have hA : ∀ q, s.heap.size ≤ q → va_A ws0 sz q := fun q hq => Or.inr (hsz ▸ hq)
  intro bench_parts bench_tree_rows bench_tree_cells bench_starts bench_looses sum_numbers y1 y2 y3 H locs ls h hP hD hS hl
  unfold f_X1_putIn_98 at h
  refine lv_iconst (v := 0) hx hb dX1_putIn_98 (by decide) ?_
  refine lv_goto (tgt := 103) hx hb dX1_putIn_99 (by decide) ?_
  exact w_X1_putIn_103 CX hK hsz (hK2 := hK2) bench_parts bench_tree_rows bench_tree_cells bench_starts bench_looses sum_numbers y1 y2 y3 0 _ _ _ h hP hD hS (lv_sub hl [0, 1, 2, 3] rfl)
set_option maxHeartbeats 4000000 in
set_option maxRecDepth 100000 in
theorem w_X1_putIn_102 (CX : Cx p m c cX1_putIn 6 s args x0 RX1 meth (some .boolean)) (hK : va_K D vwCl (ty0 cI cJ cB) s) (hsz : s.heap.size = sz) {K2 : Int32 → Int32 → (Nat → Int32) → Nat → (Nat → Int32) → (Nat → Int32) → Int32 → (Nat → Int32) → Nat → (Nat → Int64) → (Nat → Int32) → Int32 → Int32 → Int32 → Option (Int32 × (Int32) × (Int32) × (Nat → Int32) × (Nat → Int32) × (Nat → Int32) × (Nat → Int64))} (hK2 : ∀ (bench_parts : Int32) (bench_tree_rows : Int32) (bench_tree_cells : Nat → Int32) (bench_starts : Nat → Int32) (bench_looses : Nat → Int32) (sum_numbers : Nat → Int64) (y1 : Int32) (y2 : Int32) (y3 : Int32) (H : Heap) (locs : List Loc) (ls : Array Slot), K2 bench_parts bench_tree_rows bench_tree_cells bench_tree_cells_n bench_starts bench_looses body_rows body_cells body_cells_n sum_numbers rowsOfPoints y1 y2 y3 = some z → va_P D vwCl (ws_X1_putIn cI cJ cB a0 a_spans a_bound a_bench a_bench_tree a_bench_tree_cells a_bench_starts a_bench_looses a_body a_body_cells a_sum a_sum_numbers a_rowsOfPoints points pointsPut takenOut bench_parts bench_tree_rows bench_tree_cells bench_tree_cells_n bench_starts bench_looses body_rows body_cells body_cells_n sum_numbers rowsOfPoints) H → va_D (va_A ws0 sz) (ws_X1_putIn cI cJ cB a0 a_spans a_bound a_bench a_bench_tree a_bench_tree_cells a_bench_starts a_bench_looses a_body a_body_cells a_sum a_sum_numbers a_rowsOfPoints points pointsPut takenOut bench_parts bench_tree_rows bench_tree_cells bench_tree_cells_n bench_starts bench_looses body_rows body_cells body_cells_n sum_numbers rowsOfPoints) → va_S (va_A ws0 sz) s.heap H locs → lv_has ls 6 [(0, .ref a0), (1, .int y1), (2, .int y2), (3, .int y3)] → W p l e rm_X1_putIn s m args below meth c H locs 0 0 (MQ below (gQ D sz ws0 (ws_X1_putIn cI cJ cB a0 a_spans a_bound a_bench a_bench_tree a_bench_tree_cells a_bench_starts a_bench_looses a_body a_body_cells a_sum a_sum_numbers a_rowsOfPoints points pointsPut takenOut z.2.1 z.2.2.1 z.2.2.2.1 bench_tree_cells_n z.2.2.2.2.1 z.2.2.2.2.2.1 body_rows body_cells body_cells_n z.2.2.2.2.2.2 rowsOfPoints) (some (.int z.1))) args s 0 0 (va_A ws0 sz)) (F0 m 2 ls [])) : ∀ (bench_parts : Int32) (bench_tree_rows : Int32) (bench_tree_cells : Nat → Int32) (bench_starts : Nat → Int32) (bench_looses : Nat → Int32) (sum_numbers : Nat → Int64) (y1 : Int32) (y2 : Int32) (y3 : Int32) (H : Heap) (locs : List Loc) (ls : Array Slot), f_X1_putIn_102 K2 N bench_parts bench_tree_rows bench_tree_cells bench_tree_cells_n bench_starts bench_looses body_rows body_cells body_cells_n sum_numbers rowsOfPoints y1 y2 y3 = some z → va_P D vwCl (ws_X1_putIn cI cJ cB a0 a_spans a_bound a_bench a_bench_tree a_bench_tree_cells a_bench_starts a_bench_looses a_body a_body_cells a_sum a_sum_numbers a_rowsOfPoints points pointsPut takenOut bench_parts bench_tree_rows bench_tree_cells bench_tree_cells_n bench_starts bench_looses body_rows body_cells body_cells_n sum_numbers rowsOfPoints) H → va_D (va_A ws0 sz) (ws_X1_putIn cI cJ cB a0 a_spans a_bound a_bench a_bench_tree a_bench_tree_cells a_bench_starts a_bench_looses a_body a_body_cells a_sum a_sum_numbers a_rowsOfPoints points pointsPut takenOut bench_parts bench_tree_rows bench_tree_cells bench_tree_cells_n bench_starts bench_looses body_rows body_cells body_cells_n sum_numbers rowsOfPoints) → va_S (va_A ws0 sz) s.heap H locs → lv_has ls 6 [(0, .ref a0), (1, .int y1), (2, .int y2), (3, .int y3)] → W p l e rm_X1_putIn s m args below meth c H locs 0 0 (MQ below (gQ D sz ws0 (ws_X1_putIn cI cJ cB a0 a_spans a_bound a_bench a_bench_tree a_bench_tree_cells a_bench_starts a_bench_looses a_body a_body_cells a_sum a_sum_numbers a_rowsOfPoints points pointsPut takenOut z.2.1 z.2.2.1 z.2.2.2.1 bench_tree_cells_n z.2.2.2.2.1 z.2.2.2.2.2.1 body_rows body_cells body_cells_n z.2.2.2.2.2.2 rowsOfPoints) (some (.int z.1))) args s 0 0 (va_A ws0 sz)) (F0 m 102 ls [.ref a_bench]) := by
  obtain ⟨F, hr, hlk, hNw⟩ := id CX
  have hx := F.1
  have hb := F.2.1
  have hown := F.2.2.2.1
  have hA : ∀ q, s.heap.size ≤ q → va_A ws0 sz q := fun q hq => Or.inr (hsz ▸ hq)
  intro bench_parts bench_tree_rows bench_tree_cells bench_starts bench_looses sum_numbers y1 y2 y3 H locs ls h hP hD hS hl
  unfold f_X1_putIn_102 at h
  refine lv_iconst (v := 1) hx hb dX1_putIn_102 (by decide) ?_
  exact w_X1_putIn_103 CX hK hsz (hK2 := hK2) bench_parts bench_tree_rows bench_tree_cells bench_starts bench_looses sum_numbers y1 y2 y3 1 _ _ _ h hP hD hS (lv_sub hl [0, 1, 2, 3] rfl)
set_option maxHeartbeats 4000000 in
set_option maxRecDepth 100000 in
theorem w_X1_putIn_2 (CX : Cx p m c cX1_putIn 6 s args x0 RX1 meth (some .boolean)) (hK : va_K D vwCl (ty0 cI cJ cB) s) (hsz : s.heap.size = sz) : ∀ (n : Nat), ∀ (bench_parts : Int32) (bench_tree_rows : Int32) (bench_tree_cells : Nat → Int32) (bench_starts : Nat → Int32) (bench_looses : Nat → Int32) (sum_numbers : Nat → Int64) (y1 : Int32) (y2 : Int32) (y3 : Int32) (H : Heap) (locs : List Loc) (ls : Array Slot), f_X1_putIn_2 N n bench_parts bench_tree_rows bench_tree_cells bench_tree_cells_n bench_starts bench_looses body_rows body_cells body_cells_n sum_numbers rowsOfPoints y1 y2 y3 = some z → va_P D vwCl (ws_X1_putIn cI cJ cB a0 a_spans a_bound a_bench a_bench_tree a_bench_tree_cells a_bench_starts a_bench_looses a_body a_body_cells a_sum a_sum_numbers a_rowsOfPoints points pointsPut takenOut bench_parts bench_tree_rows bench_tree_cells bench_tree_cells_n bench_starts bench_looses body_rows body_cells body_cells_n sum_numbers rowsOfPoints) H → va_D (va_A ws0 sz) (ws_X1_putIn cI cJ cB a0 a_spans a_bound a_bench a_bench_tree a_bench_tree_cells a_bench_starts a_bench_looses a_body a_body_cells a_sum a_sum_numbers a_rowsOfPoints points pointsPut takenOut bench_parts bench_tree_rows bench_tree_cells bench_tree_cells_n bench_starts bench_looses body_rows body_cells body_cells_n sum_numbers rowsOfPoints) → va_S (va_A ws0 sz) s.heap H locs → lv_has ls 6 [(0, .ref a0), (1, .int y1), (2, .int y2), (3, .int y3)] → W p l e rm_X1_putIn s m args below meth c H locs 0 0 (MQ below (gQ D sz ws0 (ws_X1_putIn cI cJ cB a0 a_spans a_bound a_bench a_bench_tree a_bench_tree_cells a_bench_starts a_bench_looses a_body a_body_cells a_sum a_sum_numbers a_rowsOfPoints points pointsPut takenOut z.2.1 z.2.2.1 z.2.2.2.1 bench_tree_cells_n z.2.2.2.2.1 z.2.2.2.2.2.1 body_rows body_cells body_cells_n z.2.2.2.2.2.2 rowsOfPoints) (some (.int z.1))) args s 0 0 (va_A ws0 sz)) (F0 m 2 ls []) := by
  obtain ⟨F, hr, hlk, hNw⟩ := id CX
  have hx := F.1
  have hb := F.2.1
  have hown := F.2.2.2.1
  have hA : ∀ q, s.heap.size ≤ q → va_A ws0 sz q := fun q hq => Or.inr (hsz ▸ hq)
  intro n
  induction n with
  | zero =>
    intro bench_parts bench_tree_rows bench_tree_cells bench_starts bench_looses sum_numbers y1 y2 y3 H locs ls h
    cases h
  | succ n ih =>
    intro bench_parts bench_tree_rows bench_tree_cells bench_starts bench_looses sum_numbers y1 y2 y3 H locs ls h hP hD hS hl
    unfold f_X1_putIn_2 at h
    refine lv_iload_n hx hb dX1_putIn_2 rfl (lv_at hl 3 rfl) ?_
    refine lv_aload_n hx hb dX1_putIn_3 rfl (lv_at hl 0 rfl) ?_
    refine r_get F hK hP 0 1 rfl inW_X1 wm_212 rfl (by decide) rfl dX1_putIn_4 ?_
    refine r_getN F hNw hK hP 6 1 rfl inW_X5 nf_X1_54 rfl (by decide) rfl dX1_putIn_7 ?_
    refine lv_icmp_ge (tgt := 131) hx hb dX1_putIn_10 (by decide) (fun c10 => ?_) (fun c10 => ?_)
    · have h := o_t c10 h
      refine lv_iconst (v := 1) hx hb dX1_putIn_131 (by decide) ?_
      obtain rfl := Option.some.inj h
      exact r_ret (v := 1) F hr hlk rfl dX1_putIn_132 hsz hP hD hS
    · have h := o_f c10 h
      refine lv_aload_n hx hb dX1_putIn_13 rfl (lv_at hl 0 rfl) ?_
      refine r_get F hK hP 0 1 rfl inW_X1 wm_212 rfl (by decide) rfl dX1_putIn_14 ?_
      refine lv_iload_n hx hb dX1_putIn_17 rfl (lv_at hl 3 rfl) ?_
      obtain ⟨z18, hz18, h⟩ := o_b h
      refine k_v (wn := (ws_X1_putIn cI cJ cB a0 a_spans a_bound a_bench a_bench_tree a_bench_tree_cells a_bench_starts a_bench_looses a_body a_body_cells a_sum a_sum_numbers a_rowsOfPoints points pointsPut takenOut bench_parts bench_tree_rows bench_tree_cells bench_tree_cells_n bench_starts bench_looses body_rows body_cells body_cells_n sum_numbers rowsOfPoints)) (As := [.int y3]) (rest := []) F hNw hK hP hD hS hA (c_X5_kind l D cI cJ cB a_body a_body_cells _ body_rows body_cells body_cells_n y3 N hz18) wm_832 cv_X5_kind [6, 7] [0, 1, 2, 3, 4, 5, 8, 9, 10] [0, 1, 2, 3, 4, 5, 9, 10, 6, 7, 8] (⟨rfl, rfl, rfl, by decide, rfl⟩ : Ix [6, 7] [0, 1, 2, 3, 4, 5, 8, 9, 10] [0, 1, 2, 3, 4, 5, 9, 10, 6, 7, 8] 11) rfl rfl rfl rfl rfl rfl ⟨rfl, rfl, by decide, by decide⟩ hl.1 rfl (Nat.le_of_ble_eq_true rfl) ⟨Nat.zero_le _, Nat.zero_le _⟩ dX1_putIn_18 (fun H locs hP hD hS => ?_)
      refine lv_istore (lv' := [(4, .int z18), (0, .ref a0), (1, .int y1), (2, .int y2), (3, .int y3)]) hx hb dX1_putIn_21 hl (by decide) rfl (fun ls hl => ?_)
      refine lv_aload_n hx hb dX1_putIn_23 rfl (lv_at hl 1 rfl) ?_
      refine r_get F hK hP 0 1 rfl inW_X1 wm_212 rfl (by decide) rfl dX1_putIn_24 ?_
      refine lv_iload_n hx hb dX1_putIn_27 rfl (lv_at hl 4 rfl) ?_
      refine lv_iload_n hx hb dX1_putIn_28 rfl (lv_at hl 2 rfl) ?_
      obtain ⟨z29, hz29, h⟩ := o_b h
      refine k_v (wn := (ws_X1_putIn cI cJ cB a0 a_spans a_bound a_bench a_bench_tree a_bench_tree_cells a_bench_starts a_bench_looses a_body a_body_cells a_sum a_sum_numbers a_rowsOfPoints points pointsPut takenOut bench_parts bench_tree_rows bench_tree_cells bench_tree_cells_n bench_starts bench_looses body_rows body_cells body_cells_n sum_numbers rowsOfPoints)) (As := [.int y3, .int y1]) (rest := []) F hNw hK hP hD hS hA (c_X5_number l D cI cJ cB a_body a_body_cells _ body_rows body_cells body_cells_n y3 y1 N hz29) wm_855 cv_X5_number [6, 7] [0, 1, 2, 3, 4, 5, 8, 9, 10] [0, 1, 2, 3, 4, 5, 9, 10, 6, 7, 8] (⟨rfl, rfl, rfl, by decide, rfl⟩ : Ix [6, 7] [0, 1, 2, 3, 4, 5, 8, 9, 10] [0, 1, 2, 3, 4, 5, 9, 10, 6, 7, 8] 11) rfl rfl rfl rfl rfl rfl ⟨rfl, rfl, by decide, by decide⟩ hl.1 rfl (Nat.le_of_ble_eq_true rfl) ⟨Nat.zero_le _, Nat.zero_le _⟩ dX1_putIn_29 (fun H locs hP hD hS => ?_)
      refine lv_istore (lv' := [(5, .int z29), (4, .int z18), (0, .ref a0), (1, .int y1), (2, .int y2), (3, .int y3)]) hx hb dX1_putIn_32 hl (by decide) rfl (fun ls hl => ?_)
      refine lv_iload hx hb dX1_putIn_34 (lv_at hl 1 rfl) ?_
      refine lv_bipush (v := 6) hx hb dX1_putIn_36 (by decide) ?_
      refine lv_icmp_lt (tgt := 53) hx hb dX1_putIn_38 (by decide) (fun c38 => ?_) (fun c38 => ?_)
      · have h := o_t c38 h
        refine lv_iload hx hb dX1_putIn_53 (lv_at hl 0 rfl) ?_
        refine lv_if_ne (tgt := 73) hx hb dX1_putIn_55 (by decide) (fun c55 => ?_) (fun c55 => ?_)
        · have h := o_f c55 h
          refine lv_iload_n hx hb dX1_putIn_73 rfl (lv_at hl 4 rfl) ?_
          refine lv_if_ne (tgt := 109) hx hb dX1_putIn_74 (by decide) (fun c74 => ?_) (fun c74 => ?_)
          · have h := o_f c74 h
            refine lv_aload_n hx hb dX1_putIn_109 rfl (lv_at hl 2 rfl) ?_
            refine lv_aload_n hx hb dX1_putIn_110 rfl (lv_at hl 2 rfl) ?_
            refine r_get F hK hP 0 1 rfl inW_X1 wm_212 rfl (by decide) rfl dX1_putIn_111 ?_
            refine lv_iload_n hx hb dX1_putIn_114 rfl (lv_at hl 5 rfl) ?_
            refine lv_iload_n hx hb dX1_putIn_115 rfl (lv_at hl 3 rfl) ?_
            refine lv_iload_n hx hb dX1_putIn_116 rfl (lv_at hl 4 rfl) ?_
            obtain ⟨z117, hz117, h⟩ := o_b h
            refine k_v (wn := (ws_X1_putIn cI cJ cB a0 a_spans a_bound a_bench a_bench_tree a_bench_tree_cells a_bench_starts a_bench_looses a_body a_body_cells a_sum a_sum_numbers a_rowsOfPoints points pointsPut takenOut z117.2.1 z117.2.2.1 z117.2.2.2.1 bench_tree_cells_n z117.2.2.2.2.1 z117.2.2.2.2.2.1 body_rows body_cells body_cells_n z117.2.2.2.2.2.2 rowsOfPoints)) (As := [.ref a_body, .int y3, .int y1, .int y2]) (rest := []) F hNw hK hP hD hS hA (c_X1_replace l D cI cJ cB a0 a_body a_spans a_bound a_bench a_bench_tree a_bench_tree_cells a_bench_starts a_bench_looses a_sum a_sum_numbers a_rowsOfPoints a_body a_body_cells _ points pointsPut takenOut bench_parts bench_tree_rows bench_tree_cells bench_tree_cells_n bench_starts bench_looses sum_numbers rowsOfPoints body_rows body_cells body_cells_n y3 y1 y2 N hz117) wm_887 cv_X1_replace [0, 1, 2, 3, 4, 5, 8, 9, 10, 6, 7] [] [0, 1, 2, 3, 4, 5, 9, 10, 6, 7, 8] (⟨rfl, rfl, rfl, by decide, rfl⟩ : Ix [0, 1, 2, 3, 4, 5, 8, 9, 10, 6, 7] [] [0, 1, 2, 3, 4, 5, 9, 10, 6, 7, 8] 11) rfl rfl rfl rfl rfl rfl ⟨rfl, rfl, by decide, by decide⟩ hl.1 rfl (Nat.le_of_ble_eq_true rfl) ⟨Nat.zero_le _, Nat.zero_le _⟩ dX1_putIn_117 (fun H locs hP hD hS => ?_)
            refine lv_if_ne (tgt := 125) hx hb dX1_putIn_120 (by decide) (fun c120 => ?_) (fun c120 => ?_)
            · have h := o_f c120 h
              exact w_X1_putIn_125 CX hK hsz (hK2 := ih) z117.2.1 z117.2.2.1 z117.2.2.2.1 z117.2.2.2.2.1 z117.2.2.2.2.2.1 z117.2.2.2.2.2.2 y1 y2 y3 _ _ _ h hP hD hS (lv_sub hl [2, 3, 4, 5] rfl)
            · have h := o_t c120 h
              refine lv_iconst (v := 0) hx hb dX1_putIn_123 (by decide) ?_
              obtain rfl := Option.some.inj h
              exact r_ret (v := 0) F hr hlk rfl dX1_putIn_124 hsz hP hD hS
          · have h := o_t c74 h
            refine lv_aload_n hx hb dX1_putIn_77 rfl (lv_at hl 2 rfl) ?_
            refine r_get F hK hP 0 0 rfl inW_X1 wm_210 rfl (by decide) rfl dX1_putIn_78 ?_
            refine lv_iload hx hb dX1_putIn_81 (lv_at hl 1 rfl) ?_
            refine lv_iconst (v := 3) hx hb dX1_putIn_83 (by decide) ?_
            refine lv_icmp_eq (tgt := 98) hx hb dX1_putIn_84 (by decide) (fun c84 => ?_) (fun c84 => ?_)
            · have h := o_t c84 h
              exact w_X1_putIn_98 CX hK hsz (hK2 := ih) bench_parts bench_tree_rows bench_tree_cells bench_starts bench_looses sum_numbers y1 y2 y3 _ _ _ h hP hD hS (lv_sub hl [2, 3, 4, 5] rfl)
            · have h := o_f c84 h
              refine lv_iload hx hb dX1_putIn_87 (lv_at hl 1 rfl) ?_
              refine lv_iconst (v := 4) hx hb dX1_putIn_89 (by decide) ?_
              refine lv_icmp_lt (tgt := 102) hx hb dX1_putIn_90 (by decide) (fun c90 => ?_) (fun c90 => ?_)
              · have h := o_t c90 h
                exact w_X1_putIn_102 CX hK hsz (hK2 := ih) bench_parts bench_tree_rows bench_tree_cells bench_starts bench_looses sum_numbers y1 y2 y3 _ _ _ h hP hD hS (lv_sub hl [2, 3, 4, 5] rfl)
              · have h := o_f c90 h
                refine lv_iload hx hb dX1_putIn_93 (lv_at hl 0 rfl) ?_
                refine lv_if_le (tgt := 102) hx hb dX1_putIn_95 (by decide) (fun c95 => ?_) (fun c95 => ?_)
                · have h := o_t c95 h
                  exact w_X1_putIn_102 CX hK hsz (hK2 := ih) bench_parts bench_tree_rows bench_tree_cells bench_starts bench_looses sum_numbers y1 y2 y3 _ _ _ h hP hD hS (lv_sub hl [2, 3, 4, 5] rfl)
                · have h := o_f c95 h
                  exact w_X1_putIn_98 CX hK hsz (hK2 := ih) bench_parts bench_tree_rows bench_tree_cells bench_starts bench_looses sum_numbers y1 y2 y3 _ _ _ h hP hD hS (lv_sub hl [2, 3, 4, 5] rfl)
        · have h := o_t c55 h
          refine lv_aload_n hx hb dX1_putIn_58 rfl (lv_at hl 2 rfl) ?_
          refine r_get F hK hP 0 0 rfl inW_X1 wm_210 rfl (by decide) rfl dX1_putIn_59 ?_
          refine lv_aload_n hx hb dX1_putIn_62 rfl (lv_at hl 2 rfl) ?_
          refine r_get F hK hP 0 1 rfl inW_X1 wm_212 rfl (by decide) rfl dX1_putIn_63 ?_
          refine lv_iload_n hx hb dX1_putIn_66 rfl (lv_at hl 5 rfl) ?_
          obtain ⟨z67, hz67, h⟩ := o_b h
          refine k_v (wn := (ws_X1_putIn cI cJ cB a0 a_spans a_bound a_bench a_bench_tree a_bench_tree_cells a_bench_starts a_bench_looses a_body a_body_cells a_sum a_sum_numbers a_rowsOfPoints points pointsPut takenOut z67.1 z67.2.1 z67.2.2.1 bench_tree_cells_n z67.2.2.2.1 z67.2.2.2.2 body_rows body_cells body_cells_n sum_numbers rowsOfPoints)) (As := [.ref a_body, .int y3]) (rest := []) F hNw hK hP hD hS hA (c_X0_pushRow l D cI cJ cB a_bench a_bench_tree a_bench_tree_cells a_bench_starts a_bench_looses a_body a_body_cells _ bench_parts bench_tree_rows bench_tree_cells bench_tree_cells_n bench_starts bench_looses body_rows body_cells body_cells_n y3 N hz67) wm_845 cv_X0_pushRow [1, 2, 3, 4, 5, 6, 7] [0, 8, 9, 10] [0, 4, 5, 6, 7, 8, 9, 10, 1, 2, 3] (⟨rfl, rfl, rfl, by decide, rfl⟩ : Ix [1, 2, 3, 4, 5, 6, 7] [0, 8, 9, 10] [0, 4, 5, 6, 7, 8, 9, 10, 1, 2, 3] 11) rfl rfl rfl rfl rfl rfl ⟨rfl, rfl, by decide, by decide⟩ hl.1 rfl (Nat.le_of_ble_eq_true rfl) ⟨Nat.zero_le _, Nat.zero_le _⟩ dX1_putIn_67 (fun H locs hP hD hS => ?_)
          refine lv_goto (tgt := 125) hx hb dX1_putIn_70 (by decide) ?_
          exact w_X1_putIn_125 CX hK hsz (hK2 := ih) z67.1 z67.2.1 z67.2.2.1 z67.2.2.2.1 z67.2.2.2.2 sum_numbers y1 y2 y3 _ _ _ h hP hD hS (lv_sub hl [2, 3, 4, 5] rfl)
      · have h := o_f c38 h
        refine lv_aload_n hx hb dX1_putIn_41 rfl (lv_at hl 2 rfl) ?_
        refine r_get F hK hP 0 0 rfl inW_X1 wm_210 rfl (by decide) rfl dX1_putIn_42 ?_
        refine lv_iload hx hb dX1_putIn_45 (lv_at hl 1 rfl) ?_
        obtain ⟨z47, hz47, h⟩ := o_b h
        refine k_v (wn := (ws_X1_putIn cI cJ cB a0 a_spans a_bound a_bench a_bench_tree a_bench_tree_cells a_bench_starts a_bench_looses a_body a_body_cells a_sum a_sum_numbers a_rowsOfPoints points pointsPut takenOut z47.1 z47.2.1 z47.2.2.1 bench_tree_cells_n bench_starts z47.2.2.2 body_rows body_cells body_cells_n sum_numbers rowsOfPoints)) (As := [.int z18]) (rest := []) F hNw hK hP hD hS hA (c_X0_join l D cI cJ cB a_bench a_bench_tree a_bench_tree_cells a_bench_starts a_bench_looses _ bench_parts bench_tree_rows bench_tree_cells bench_tree_cells_n bench_starts bench_looses z18 N hz47) wm_854 cv_X0_join [1, 2, 3, 4, 5] [0, 6, 7, 8, 9, 10] [0, 6, 7, 8, 9, 10, 1, 2, 3, 4, 5] (⟨rfl, rfl, rfl, by decide, rfl⟩ : Ix [1, 2, 3, 4, 5] [0, 6, 7, 8, 9, 10] [0, 6, 7, 8, 9, 10, 1, 2, 3, 4, 5] 11) rfl rfl rfl rfl rfl rfl ⟨rfl, rfl, by decide, by decide⟩ hl.1 rfl (Nat.le_of_ble_eq_true rfl) ⟨Nat.zero_le _, Nat.zero_le _⟩ dX1_putIn_47 (fun H locs hP hD hS => ?_)
        refine lv_goto (tgt := 125) hx hb dX1_putIn_50 (by decide) ?_
        exact w_X1_putIn_125 CX hK hsz (hK2 := ih) z47.1 z47.2.1 z47.2.2.1 bench_starts z47.2.2.2 sum_numbers y1 y2 y3 _ _ _ h hP hD hS (lv_sub hl [2, 3, 4, 5] rfl)
end G_X1_putIn
set_option maxHeartbeats 4000000 in
set_option maxRecDepth 100000 in
theorem c_X1_putIn (l : Launch) (D : va_G) (cI cJ cB : ClassId) (a0 a_spans a_bound a_bench a_bench_tree a_bench_tree_cells a_bench_starts a_bench_looses a_body a_body_cells a_sum a_sum_numbers a_rowsOfPoints : Nat) (sz : Nat) (points : Int32) (pointsPut : Int32) (takenOut : Int32) (bench_parts : Int32) (bench_tree_rows : Int32) (bench_tree_cells : Nat → Int32) (bench_tree_cells_n : Nat) (bench_starts : Nat → Int32) (bench_looses : Nat → Int32) (body_rows : Int32) (body_cells : Nat → Int32) (body_cells_n : Nat) (sum_numbers : Nat → Int64) (rowsOfPoints : Nat → Int32) (x1 : Int32) (x2 : Int32) (N : Nat) {z : Int32 × (Int32) × (Int32) × (Nat → Int32) × (Nat → Int32) × (Nat → Int32) × (Nat → Int64)} (h : f_X1_putIn N bench_parts bench_tree_rows bench_tree_cells bench_tree_cells_n bench_starts bench_looses body_rows body_cells body_cells_n sum_numbers rowsOfPoints x1 x2 = some z) : Mg l yX1_putIn cX1_putIn 6 (some .boolean) rm_X1_putIn D (ty0 cI cJ cB) [.ref a0, .int x1, .int x2] sz (ws_X1_putIn cI cJ cB a0 a_spans a_bound a_bench a_bench_tree a_bench_tree_cells a_bench_starts a_bench_looses a_body a_body_cells a_sum a_sum_numbers a_rowsOfPoints points pointsPut takenOut bench_parts bench_tree_rows bench_tree_cells bench_tree_cells_n bench_starts bench_looses body_rows body_cells body_cells_n sum_numbers rowsOfPoints) (some (.int z.1)) (ws_X1_putIn cI cJ cB a0 a_spans a_bound a_bench a_bench_tree a_bench_tree_cells a_bench_starts a_bench_looses a_body a_body_cells a_sum a_sum_numbers a_rowsOfPoints points pointsPut takenOut z.2.1 z.2.2.1 z.2.2.2.1 bench_tree_cells_n z.2.2.2.2.1 z.2.2.2.2.2.1 body_rows body_cells body_cells_n z.2.2.2.2.2.2 rowsOfPoints) := by
  refine Mg.of (by decide) (Nat.le_of_ble_eq_true rfl) ?_
  intro p e s m below meth c CX hK hsz hP hD ls hl
  have CX : Cx p m c cX1_putIn 6 s ([.ref a0, .int x1, .int x2] : List Value).toArray (Cond.code yX1_putIn cX1_putIn 6 (some .boolean)) RX1 meth (some .boolean) := CX
  obtain ⟨F, hr, hlk, hNw⟩ := id CX
  have hx := F.1
  have hb := F.2.1
  have hown := F.2.2.2.1
  have hl : lv_has ls 6 [(0, .ref a0), (1, .int x1), (2, .int x2)] := hl
  have hS : va_S (va_A (ws_X1_putIn cI cJ cB a0 a_spans a_bound a_bench a_bench_tree a_bench_tree_cells a_bench_starts a_bench_looses a_body a_body_cells a_sum a_sum_numbers a_rowsOfPoints points pointsPut takenOut bench_parts bench_tree_rows bench_tree_cells bench_tree_cells_n bench_starts bench_looses body_rows body_cells body_cells_n sum_numbers rowsOfPoints) sz) s.heap s.heap [] := va_S.rf
  have hA : ∀ q, s.heap.size ≤ q → va_A (ws_X1_putIn cI cJ cB a0 a_spans a_bound a_bench a_bench_tree a_bench_tree_cells a_bench_starts a_bench_looses a_body a_body_cells a_sum a_sum_numbers a_rowsOfPoints points pointsPut takenOut bench_parts bench_tree_rows bench_tree_cells bench_tree_cells_n bench_starts bench_looses body_rows body_cells body_cells_n sum_numbers rowsOfPoints) sz q := fun q hq => Or.inr (hsz ▸ hq)
  unfold f_X1_putIn at h
  refine lv_iconst (v := 0) hx hb dX1_putIn_0 (by decide) ?_
  refine lv_istore_n (lv' := [(3, .int 0), (0, .ref a0), (1, .int x1), (2, .int x2)]) hx hb dX1_putIn_1 rfl hl (by decide) rfl (fun ls hl => ?_)
  exact w_X1_putIn_2 CX hK hsz N bench_parts bench_tree_rows bench_tree_cells bench_starts bench_looses sum_numbers x1 x2 0 _ _ _ h hP hD hS (lv_sub hl [1, 2, 3, 0] rfl)
section G_X1_collectPoints
abbrev ws_X1_collectPoints (cI cJ cB : ClassId) (a0 a_bench a_sum a_spans a_bound a_body a_body_cells a_rowsOfPoints : Nat) (points : Int32) (pointsPut : Int32) (takenOut : Int32) (body_rows : Int32) (body_cells : Nat → Int32) (body_cells_n : Nat) (rowsOfPoints : Nat → Int32) : va_W := [(a0, .inr (3, [.ref a_bench, .ref a_body, .ref a_sum, .ref a_rowsOfPoints, .ref a_spans, .ref a_bound, .int points, .int pointsPut, .int takenOut])), (a_body, .inr (7, [.ref a_body_cells, .int body_rows])), (a_body_cells, .inl (cI, body_cells_n, .inl body_cells)), (a_rowsOfPoints, .inl (cI, 4411, .inl rowsOfPoints))]
abbrev rm_X1_collectPoints : Room := { frames := 2, cells := 0, slots := 0, locals := 50 }
def f_X1_collectPoints_99 (K7 : Int32 → Int32 → (Nat → Int32) → Nat → (Nat → Int32) → Int32 → Int32 → Option ((Int32) × (Nat → Int32))) (N : Nat) (points : Int32) (body_rows : Int32) (body_cells : Nat → Int32) (body_cells_n : Nat) (rowsOfPoints : Nat → Int32) (y1 : Int32) (y2 : Int32) : Option ((Int32) × (Nat → Int32)) := K7 points body_rows body_cells body_cells_n rowsOfPoints y1 (y2 + 1)
def f_X1_collectPoints_96 (K7 : Int32 → Int32 → (Nat → Int32) → Nat → (Nat → Int32) → Int32 → Int32 → Option ((Int32) × (Nat → Int32))) (N : Nat) (points : Int32) (body_rows : Int32) (body_cells : Nat → Int32) (body_cells_n : Nat) (rowsOfPoints : Nat → Int32) (y1 : Int32) (y2 : Int32) (s1 : Int32) (s2 : Int32) (s3 : Int32) : Option ((Int32) × (Nat → Int32)) := (f_X1_addPoint N points body_rows body_cells body_cells_n rowsOfPoints s1 s2 s3).bind (fun z96 => f_X1_collectPoints_99 K7 N z96.1 body_rows body_cells body_cells_n z96.2 y1 y2)
def f_X1_collectPoints_91 (K7 : Int32 → Int32 → (Nat → Int32) → Nat → (Nat → Int32) → Int32 → Int32 → Option ((Int32) × (Nat → Int32))) (N : Nat) (points : Int32) (body_rows : Int32) (body_cells : Nat → Int32) (body_cells_n : Nat) (rowsOfPoints : Nat → Int32) (y1 : Int32) (y2 : Int32) (s1 : Int32) (s2 : Int32) : Option ((Int32) × (Nat → Int32)) := f_X1_collectPoints_96 K7 N points body_rows body_cells body_cells_n rowsOfPoints y1 y2 s1 s2 1
def f_X1_collectPoints_76 (K7 : Int32 → Int32 → (Nat → Int32) → Nat → (Nat → Int32) → Int32 → Int32 → Option ((Int32) × (Nat → Int32))) (N : Nat) (points : Int32) (body_rows : Int32) (body_cells : Nat → Int32) (body_cells_n : Nat) (rowsOfPoints : Nat → Int32) (y1 : Int32) (y2 : Int32) (y4 : Int32) : Option ((Int32) × (Nat → Int32)) := ifb (y4 = 3) (f_X1_collectPoints_91 K7 N points body_rows body_cells body_cells_n rowsOfPoints y1 y2 y2 y1) (ifb (y4 = 4) (f_X1_collectPoints_91 K7 N points body_rows body_cells body_cells_n rowsOfPoints y1 y2 y2 y1) (f_X1_collectPoints_96 K7 N points body_rows body_cells body_cells_n rowsOfPoints y1 y2 y2 y1 0))
def f_X1_collectPoints_55 (K7 : Int32 → Int32 → (Nat → Int32) → Nat → (Nat → Int32) → Int32 → Int32 → Option ((Int32) × (Nat → Int32))) (N : Nat) (points : Int32) (body_rows : Int32) (body_cells : Nat → Int32) (body_cells_n : Nat) (rowsOfPoints : Nat → Int32) (y1 : Int32) (y2 : Int32) (y3 : Int32) (y4 : Int32) (s0 : Int32) : Option ((Int32) × (Nat → Int32)) := ifb (s0 = 0) (f_X1_collectPoints_99 K7 N points body_rows body_cells body_cells_n rowsOfPoints y1 y2) (ifb (y3 = 0) (f_X1_collectPoints_99 K7 N points body_rows body_cells body_cells_n rowsOfPoints y1 y2) (ifb (y4 ≤ 3) (f_X1_collectPoints_76 K7 N points body_rows body_cells body_cells_n rowsOfPoints y1 y2 y4) (ifb (0 ≤ y3) (f_X1_collectPoints_99 K7 N points body_rows body_cells body_cells_n rowsOfPoints y1 y2) (f_X1_collectPoints_76 K7 N points body_rows body_cells body_cells_n rowsOfPoints y1 y2 y4))))
def f_X1_collectPoints_54 (K7 : Int32 → Int32 → (Nat → Int32) → Nat → (Nat → Int32) → Int32 → Int32 → Option ((Int32) × (Nat → Int32))) (N : Nat) (points : Int32) (body_rows : Int32) (body_cells : Nat → Int32) (body_cells_n : Nat) (rowsOfPoints : Nat → Int32) (y1 : Int32) (y2 : Int32) (y3 : Int32) (y4 : Int32) : Option ((Int32) × (Nat → Int32)) := f_X1_collectPoints_55 K7 N points body_rows body_cells body_cells_n rowsOfPoints y1 y2 y3 y4 0
def f_X1_collectPoints_7 (N : Nat) : Nat → Int32 → Int32 → (Nat → Int32) → Nat → (Nat → Int32) → Int32 → Int32 → Option ((Int32) × (Nat → Int32))
  | 0 => fun _ _ _ _ _ _ _ => none
  | n + 1 => fun points body_rows body_cells body_cells_n rowsOfPoints y1 y2 => ifb (body_rows ≤ y2) (some (points, rowsOfPoints)) ((f_X5_number N body_rows body_cells body_cells_n y2 y1).bind (fun z24 => (f_X5_kind N body_rows body_cells body_cells_n y2).bind (fun z33 => ifb (z33 < 2) (f_X1_collectPoints_54 (f_X1_collectPoints_7 N n) N points body_rows body_cells body_cells_n rowsOfPoints y1 y2 z24 z33) (ifb (5 < z33) (f_X1_collectPoints_54 (f_X1_collectPoints_7 N n) N points body_rows body_cells body_cells_n rowsOfPoints y1 y2 z24 z33) (f_X1_collectPoints_55 (f_X1_collectPoints_7 N n) N points body_rows body_cells body_cells_n rowsOfPoints y1 y2 z24 z33 1)))))
def f_X1_collectPoints (N : Nat) (points : Int32) (body_rows : Int32) (body_cells : Nat → Int32) (body_cells_n : Nat) (rowsOfPoints : Nat → Int32) (x1 : Int32) : Option ((Int32) × (Nat → Int32)) := f_X1_collectPoints_7 N N 1 body_rows body_cells body_cells_n rowsOfPoints x1 0
variable {p : Program} {l : Launch} {e : Env} {s : State} {m : MethodId} {below : List Frame} {meth : Method} {c : Code} {args : Array Value} {x0 : Cond} {D : va_G} {cI cJ cB : ClassId} {sz N : Nat} {ws0 : va_W} {a0 a_bench a_sum a_spans a_bound a_body a_body_cells a_rowsOfPoints : Nat} {pointsPut : Int32} {takenOut : Int32} {body_rows : Int32} {body_cells : Nat → Int32} {body_cells_n : Nat} {z : (Int32) × (Nat → Int32)}
set_option maxHeartbeats 4000000 in
set_option maxRecDepth 100000 in
theorem w_X1_collectPoints_99 (CX : Cx p m c cX1_collectPoints 6 s args x0 RX1 meth none) (hK : va_K D vwCl (ty0 cI cJ cB) s) (hsz : s.heap.size = sz) {K7 : Int32 → Int32 → (Nat → Int32) → Nat → (Nat → Int32) → Int32 → Int32 → Option ((Int32) × (Nat → Int32))} (hK7 : ∀ (points : Int32) (rowsOfPoints : Nat → Int32) (y1 : Int32) (y2 : Int32) (H : Heap) (locs : List Loc) (ls : Array Slot), K7 points body_rows body_cells body_cells_n rowsOfPoints y1 y2 = some z → va_P D vwCl (ws_X1_collectPoints cI cJ cB a0 a_bench a_sum a_spans a_bound a_body a_body_cells a_rowsOfPoints points pointsPut takenOut body_rows body_cells body_cells_n rowsOfPoints) H → va_D (va_A ws0 sz) (ws_X1_collectPoints cI cJ cB a0 a_bench a_sum a_spans a_bound a_body a_body_cells a_rowsOfPoints points pointsPut takenOut body_rows body_cells body_cells_n rowsOfPoints) → va_S (va_A ws0 sz) s.heap H locs → lv_has ls 6 [(0, .ref a0), (1, .int y1), (2, .int y2)] → W p l e rm_X1_collectPoints s m args below meth c H locs 0 0 (MQ below (gQ D sz ws0 (ws_X1_collectPoints cI cJ cB a0 a_bench a_sum a_spans a_bound a_body a_body_cells a_rowsOfPoints z.1 pointsPut takenOut body_rows body_cells body_cells_n z.2) none) args s 0 0 (va_A ws0 sz)) (F0 m 7 ls [])) : ∀ (points : Int32) (rowsOfPoints : Nat → Int32) (y1 : Int32) (y2 : Int32) (H : Heap) (locs : List Loc) (ls : Array Slot), f_X1_collectPoints_99 K7 N points body_rows body_cells body_cells_n rowsOfPoints y1 y2 = some z → va_P D vwCl (ws_X1_collectPoints cI cJ cB a0 a_bench a_sum a_spans a_bound a_body a_body_cells a_rowsOfPoints points pointsPut takenOut body_rows body_cells body_cells_n rowsOfPoints) H → va_D (va_A ws0 sz) (ws_X1_collectPoints cI cJ cB a0 a_bench a_sum a_spans a_bound a_body a_body_cells a_rowsOfPoints points pointsPut takenOut body_rows body_cells body_cells_n rowsOfPoints) → va_S (va_A ws0 sz) s.heap H locs → lv_has ls 6 [(0, .ref a0), (1, .int y1), (2, .int y2)] → W p l e rm_X1_collectPoints s m args below meth c H locs 0 0 (MQ below (gQ D sz ws0 (ws_X1_collectPoints cI cJ cB a0 a_bench a_sum a_spans a_bound a_body a_body_cells a_rowsOfPoints z.1 pointsPut takenOut body_rows body_cells body_cells_n z.2) none) args s 0 0 (va_A ws0 sz)) (F0 m 99 ls []) := by
  obtain ⟨F, hr, hlk, hNw⟩ := id CX
  have hx := F.1
  have hb := F.2.1
  have hown := F.2.2.2.1
  have hA : ∀ q, s.heap.size ≤ q → va_A ws0 sz q := fun q hq => Or.inr (hsz ▸ hq)
  intro points rowsOfPoints y1 y2 H locs ls h hP hD hS hl
  unfold f_X1_collectPoints_99 at h
  refine lv_iinc (v := y2 + 1) (lv' := [(2, .int (y2 + 1)), (0, .ref a0), (1, .int y1)]) hx hb dX1_collectPoints_99 hl (k := 2) rfl rfl (by decide) rfl (fun ls hl => ?_)
  refine lv_goto (tgt := 7) hx hb dX1_collectPoints_102 (by decide) ?_
  exact hK7 points rowsOfPoints y1 (y2 + 1) _ _ _ h hP hD hS (lv_sub hl [1, 2, 0] rfl)
set_option maxHeartbeats 4000000 in
set_option maxRecDepth 100000 in
theorem w_X1_collectPoints_96 (CX : Cx p m c cX1_collectPoints 6 s args x0 RX1 meth none) (hK : va_K D vwCl (ty0 cI cJ cB) s) (hsz : s.heap.size = sz) {K7 : Int32 → Int32 → (Nat → Int32) → Nat → (Nat → Int32) → Int32 → Int32 → Option ((Int32) × (Nat → Int32))} (hK7 : ∀ (points : Int32) (rowsOfPoints : Nat → Int32) (y1 : Int32) (y2 : Int32) (H : Heap) (locs : List Loc) (ls : Array Slot), K7 points body_rows body_cells body_cells_n rowsOfPoints y1 y2 = some z → va_P D vwCl (ws_X1_collectPoints cI cJ cB a0 a_bench a_sum a_spans a_bound a_body a_body_cells a_rowsOfPoints points pointsPut takenOut body_rows body_cells body_cells_n rowsOfPoints) H → va_D (va_A ws0 sz) (ws_X1_collectPoints cI cJ cB a0 a_bench a_sum a_spans a_bound a_body a_body_cells a_rowsOfPoints points pointsPut takenOut body_rows body_cells body_cells_n rowsOfPoints) → va_S (va_A ws0 sz) s.heap H locs → lv_has ls 6 [(0, .ref a0), (1, .int y1), (2, .int y2)] → W p l e rm_X1_collectPoints s m args below meth c H locs 0 0 (MQ below (gQ D sz ws0 (ws_X1_collectPoints cI cJ cB a0 a_bench a_sum a_spans a_bound a_body a_body_cells a_rowsOfPoints z.1 pointsPut takenOut body_rows body_cells body_cells_n z.2) none) args s 0 0 (va_A ws0 sz)) (F0 m 7 ls [])) : ∀ (points : Int32) (rowsOfPoints : Nat → Int32) (y1 : Int32) (y2 : Int32) (s1 : Int32) (s2 : Int32) (s3 : Int32) (H : Heap) (locs : List Loc) (ls : Array Slot), f_X1_collectPoints_96 K7 N points body_rows body_cells body_cells_n rowsOfPoints y1 y2 s1 s2 s3 = some z → va_P D vwCl (ws_X1_collectPoints cI cJ cB a0 a_bench a_sum a_spans a_bound a_body a_body_cells a_rowsOfPoints points pointsPut takenOut body_rows body_cells body_cells_n rowsOfPoints) H → va_D (va_A ws0 sz) (ws_X1_collectPoints cI cJ cB a0 a_bench a_sum a_spans a_bound a_body a_body_cells a_rowsOfPoints points pointsPut takenOut body_rows body_cells body_cells_n rowsOfPoints) → va_S (va_A ws0 sz) s.heap H locs → lv_has ls 6 [(0, .ref a0), (1, .int y1), (2, .int y2)] → W p l e rm_X1_collectPoints s m args below meth c H locs 0 0 (MQ below (gQ D sz ws0 (ws_X1_collectPoints cI cJ cB a0 a_bench a_sum a_spans a_bound a_body a_body_cells a_rowsOfPoints z.1 pointsPut takenOut body_rows body_cells body_cells_n z.2) none) args s 0 0 (va_A ws0 sz)) (F0 m 96 ls [.int s3, .int s2, .int s1, .ref a0]) := by
  obtain ⟨F, hr, hlk, hNw⟩ := id CX
  have hx := F.1
  have hb := F.2.1
  have hown := F.2.2.2.1
  have hA : ∀ q, s.heap.size ≤ q → va_A ws0 sz q := fun q hq => Or.inr (hsz ▸ hq)
  intro points rowsOfPoints y1 y2 s1 s2 s3 H locs ls h hP hD hS hl
  unfold f_X1_collectPoints_96 at h
  obtain ⟨z96, hz96, h⟩ := o_b h
  refine k_v (wn := (ws_X1_collectPoints cI cJ cB a0 a_bench a_sum a_spans a_bound a_body a_body_cells a_rowsOfPoints z96.1 pointsPut takenOut body_rows body_cells body_cells_n z96.2)) (As := [.int s1, .int s2, .int s3]) (rest := []) F hNw hK hP hD hS hA (c_X1_addPoint l D cI cJ cB a0 a_bench a_sum a_spans a_bound a_body a_body_cells a_rowsOfPoints _ points pointsPut takenOut body_rows body_cells body_cells_n rowsOfPoints s1 s2 s3 N hz96) wm_871 cv_X1_addPoint [0, 1, 2, 3] [] [0, 1, 2, 3] (⟨rfl, rfl, rfl, by decide, rfl⟩ : Ix [0, 1, 2, 3] [] [0, 1, 2, 3] 4) rfl rfl rfl rfl rfl rfl ⟨rfl, rfl, by decide, by decide⟩ hl.1 rfl (Nat.le_of_ble_eq_true rfl) ⟨Nat.zero_le _, Nat.zero_le _⟩ dX1_collectPoints_96 (fun H locs hP hD hS => ?_)
  exact w_X1_collectPoints_99 CX hK hsz (hK7 := hK7) z96.1 z96.2 y1 y2 _ _ _ h hP hD hS (lv_sub hl [0, 1, 2] rfl)
set_option maxHeartbeats 4000000 in
set_option maxRecDepth 100000 in
theorem w_X1_collectPoints_91 (CX : Cx p m c cX1_collectPoints 6 s args x0 RX1 meth none) (hK : va_K D vwCl (ty0 cI cJ cB) s) (hsz : s.heap.size = sz) {K7 : Int32 → Int32 → (Nat → Int32) → Nat → (Nat → Int32) → Int32 → Int32 → Option ((Int32) × (Nat → Int32))} (hK7 : ∀ (points : Int32) (rowsOfPoints : Nat → Int32) (y1 : Int32) (y2 : Int32) (H : Heap) (locs : List Loc) (ls : Array Slot), K7 points body_rows body_cells body_cells_n rowsOfPoints y1 y2 = some z → va_P D vwCl (ws_X1_collectPoints cI cJ cB a0 a_bench a_sum a_spans a_bound a_body a_body_cells a_rowsOfPoints points pointsPut takenOut body_rows body_cells body_cells_n rowsOfPoints) H → va_D (va_A ws0 sz) (ws_X1_collectPoints cI cJ cB a0 a_bench a_sum a_spans a_bound a_body a_body_cells a_rowsOfPoints points pointsPut takenOut body_rows body_cells body_cells_n rowsOfPoints) → va_S (va_A ws0 sz) s.heap H locs → lv_has ls 6 [(0, .ref a0), (1, .int y1), (2, .int y2)] → W p l e rm_X1_collectPoints s m args below meth c H locs 0 0 (MQ below (gQ D sz ws0 (ws_X1_collectPoints cI cJ cB a0 a_bench a_sum a_spans a_bound a_body a_body_cells a_rowsOfPoints z.1 pointsPut takenOut body_rows body_cells body_cells_n z.2) none) args s 0 0 (va_A ws0 sz)) (F0 m 7 ls [])) : ∀ (points : Int32) (rowsOfPoints : Nat → Int32) (y1 : Int32) (y2 : Int32) (s1 : Int32) (s2 : Int32) (H : Heap) (locs : List Loc) (ls : Array Slot), f_X1_collectPoints_91 K7 N points body_rows body_cells body_cells_n rowsOfPoints y1 y2 s1 s2 = some z → va_P D vwCl (ws_X1_collectPoints cI cJ cB a0 a_bench a_sum a_spans a_bound a_body a_body_cells a_rowsOfPoints points pointsPut takenOut body_rows body_cells body_cells_n rowsOfPoints) H → va_D (va_A ws0 sz) (ws_X1_collectPoints cI cJ cB a0 a_bench a_sum a_spans a_bound a_body a_body_cells a_rowsOfPoints points pointsPut takenOut body_rows body_cells body_cells_n rowsOfPoints) → va_S (va_A ws0 sz) s.heap H locs → lv_has ls 6 [(0, .ref a0), (1, .int y1), (2, .int y2)] → W p l e rm_X1_collectPoints s m args below meth c H locs 0 0 (MQ below (gQ D sz ws0 (ws_X1_collectPoints cI cJ cB a0 a_bench a_sum a_spans a_bound a_body a_body_cells a_rowsOfPoints z.1 pointsPut takenOut body_rows body_cells body_cells_n z.2) none) args s 0 0 (va_A ws0 sz)) (F0 m 91 ls [.int s2, .int s1, .ref a0]) := by
  obtain ⟨F, hr, hlk, hNw⟩ := id CX
  have hx := F.1
  have hb := F.2.1
  have hown := F.2.2.2.1
  have hA : ∀ q, s.heap.size ≤ q → va_A ws0 sz q := fun q hq => Or.inr (hsz ▸ hq)
  intro points rowsOfPoints y1 y2 s1 s2 H locs ls h hP hD hS hl
  unfold f_X1_collectPoints_91 at h
  refine lv_iconst (v := 1) hx hb dX1_collectPoints_91 (by decide) ?_
  refine lv_goto (tgt := 96) hx hb dX1_collectPoints_92 (by decide) ?_
  exact w_X1_collectPoints_96 CX hK hsz (hK7 := hK7) points rowsOfPoints y1 y2 s1 s2 1 _ _ _ h hP hD hS (lv_sub hl [0, 1, 2] rfl)
set_option maxHeartbeats 4000000 in
set_option maxRecDepth 100000 in
theorem w_X1_collectPoints_76 (CX : Cx p m c cX1_collectPoints 6 s args x0 RX1 meth none) (hK : va_K D vwCl (ty0 cI cJ cB) s) (hsz : s.heap.size = sz) {K7 : Int32 → Int32 → (Nat → Int32) → Nat → (Nat → Int32) → Int32 → Int32 → Option ((Int32) × (Nat → Int32))} (hK7 : ∀ (points : Int32) (rowsOfPoints : Nat → Int32) (y1 : Int32) (y2 : Int32) (H : Heap) (locs : List Loc) (ls : Array Slot), K7 points body_rows body_cells body_cells_n rowsOfPoints y1 y2 = some z → va_P D vwCl (ws_X1_collectPoints cI cJ cB a0 a_bench a_sum a_spans a_bound a_body a_body_cells a_rowsOfPoints points pointsPut takenOut body_rows body_cells body_cells_n rowsOfPoints) H → va_D (va_A ws0 sz) (ws_X1_collectPoints cI cJ cB a0 a_bench a_sum a_spans a_bound a_body a_body_cells a_rowsOfPoints points pointsPut takenOut body_rows body_cells body_cells_n rowsOfPoints) → va_S (va_A ws0 sz) s.heap H locs → lv_has ls 6 [(0, .ref a0), (1, .int y1), (2, .int y2)] → W p l e rm_X1_collectPoints s m args below meth c H locs 0 0 (MQ below (gQ D sz ws0 (ws_X1_collectPoints cI cJ cB a0 a_bench a_sum a_spans a_bound a_body a_body_cells a_rowsOfPoints z.1 pointsPut takenOut body_rows body_cells body_cells_n z.2) none) args s 0 0 (va_A ws0 sz)) (F0 m 7 ls [])) : ∀ (points : Int32) (rowsOfPoints : Nat → Int32) (y1 : Int32) (y2 : Int32) (y4 : Int32) (H : Heap) (locs : List Loc) (ls : Array Slot), f_X1_collectPoints_76 K7 N points body_rows body_cells body_cells_n rowsOfPoints y1 y2 y4 = some z → va_P D vwCl (ws_X1_collectPoints cI cJ cB a0 a_bench a_sum a_spans a_bound a_body a_body_cells a_rowsOfPoints points pointsPut takenOut body_rows body_cells body_cells_n rowsOfPoints) H → va_D (va_A ws0 sz) (ws_X1_collectPoints cI cJ cB a0 a_bench a_sum a_spans a_bound a_body a_body_cells a_rowsOfPoints points pointsPut takenOut body_rows body_cells body_cells_n rowsOfPoints) → va_S (va_A ws0 sz) s.heap H locs → lv_has ls 6 [(0, .ref a0), (1, .int y1), (2, .int y2), (4, .int y4)] → W p l e rm_X1_collectPoints s m args below meth c H locs 0 0 (MQ below (gQ D sz ws0 (ws_X1_collectPoints cI cJ cB a0 a_bench a_sum a_spans a_bound a_body a_body_cells a_rowsOfPoints z.1 pointsPut takenOut body_rows body_cells body_cells_n z.2) none) args s 0 0 (va_A ws0 sz)) (F0 m 76 ls []) := by
  obtain ⟨F, hr, hlk, hNw⟩ := id CX
  have hx := F.1
  have hb := F.2.1
  have hown := F.2.2.2.1
  have hA : ∀ q, s.heap.size ≤ q → va_A ws0 sz q := fun q hq => Or.inr (hsz ▸ hq)
  intro points rowsOfPoints y1 y2 y4 H locs ls h hP hD hS hl
  unfold f_X1_collectPoints_76 at h
  refine lv_aload_n hx hb dX1_collectPoints_76 rfl (lv_at hl 0 rfl) ?_
  refine lv_iload_n hx hb dX1_collectPoints_77 rfl (lv_at hl 2 rfl) ?_
  refine lv_iload_n hx hb dX1_collectPoints_78 rfl (lv_at hl 1 rfl) ?_
  refine lv_iload hx hb dX1_collectPoints_79 (lv_at hl 3 rfl) ?_
  refine lv_iconst (v := 3) hx hb dX1_collectPoints_81 (by decide) ?_
  refine lv_icmp_eq (tgt := 91) hx hb dX1_collectPoints_82 (by decide) (fun c82 => ?_) (fun c82 => ?_)
  · have h := o_t c82 h
    exact w_X1_collectPoints_91 CX hK hsz (hK7 := hK7) points rowsOfPoints y1 y2 y2 y1 _ _ _ h hP hD hS (lv_sub hl [0, 1, 2] rfl)
  · have h := o_f c82 h
    refine lv_iload hx hb dX1_collectPoints_85 (lv_at hl 3 rfl) ?_
    refine lv_iconst (v := 4) hx hb dX1_collectPoints_87 (by decide) ?_
    refine lv_icmp_ne (tgt := 95) hx hb dX1_collectPoints_88 (by decide) (fun c88 => ?_) (fun c88 => ?_)
    · have h := o_f c88 h
      refine lv_iconst (v := 0) hx hb dX1_collectPoints_95 (by decide) ?_
      exact w_X1_collectPoints_96 CX hK hsz (hK7 := hK7) points rowsOfPoints y1 y2 y2 y1 0 _ _ _ h hP hD hS (lv_sub hl [0, 1, 2] rfl)
    · have h := o_t c88 h
      exact w_X1_collectPoints_91 CX hK hsz (hK7 := hK7) points rowsOfPoints y1 y2 y2 y1 _ _ _ h hP hD hS (lv_sub hl [0, 1, 2] rfl)
set_option maxHeartbeats 4000000 in
set_option maxRecDepth 100000 in
theorem w_X1_collectPoints_55 (CX : Cx p m c cX1_collectPoints 6 s args x0 RX1 meth none) (hK : va_K D vwCl (ty0 cI cJ cB) s) (hsz : s.heap.size = sz) {K7 : Int32 → Int32 → (Nat → Int32) → Nat → (Nat → Int32) → Int32 → Int32 → Option ((Int32) × (Nat → Int32))} (hK7 : ∀ (points : Int32) (rowsOfPoints : Nat → Int32) (y1 : Int32) (y2 : Int32) (H : Heap) (locs : List Loc) (ls : Array Slot), K7 points body_rows body_cells body_cells_n rowsOfPoints y1 y2 = some z → va_P D vwCl (ws_X1_collectPoints cI cJ cB a0 a_bench a_sum a_spans a_bound a_body a_body_cells a_rowsOfPoints points pointsPut takenOut body_rows body_cells body_cells_n rowsOfPoints) H → va_D (va_A ws0 sz) (ws_X1_collectPoints cI cJ cB a0 a_bench a_sum a_spans a_bound a_body a_body_cells a_rowsOfPoints points pointsPut takenOut body_rows body_cells body_cells_n rowsOfPoints) → va_S (va_A ws0 sz) s.heap H locs → lv_has ls 6 [(0, .ref a0), (1, .int y1), (2, .int y2)] → W p l e rm_X1_collectPoints s m args below meth c H locs 0 0 (MQ below (gQ D sz ws0 (ws_X1_collectPoints cI cJ cB a0 a_bench a_sum a_spans a_bound a_body a_body_cells a_rowsOfPoints z.1 pointsPut takenOut body_rows body_cells body_cells_n z.2) none) args s 0 0 (va_A ws0 sz)) (F0 m 7 ls [])) : ∀ (points : Int32) (rowsOfPoints : Nat → Int32) (y1 : Int32) (y2 : Int32) (y3 : Int32) (y4 : Int32) (s0 : Int32) (H : Heap) (locs : List Loc) (ls : Array Slot), f_X1_collectPoints_55 K7 N points body_rows body_cells body_cells_n rowsOfPoints y1 y2 y3 y4 s0 = some z → va_P D vwCl (ws_X1_collectPoints cI cJ cB a0 a_bench a_sum a_spans a_bound a_body a_body_cells a_rowsOfPoints points pointsPut takenOut body_rows body_cells body_cells_n rowsOfPoints) H → va_D (va_A ws0 sz) (ws_X1_collectPoints cI cJ cB a0 a_bench a_sum a_spans a_bound a_body a_body_cells a_rowsOfPoints points pointsPut takenOut body_rows body_cells body_cells_n rowsOfPoints) → va_S (va_A ws0 sz) s.heap H locs → lv_has ls 6 [(0, .ref a0), (1, .int y1), (2, .int y2), (3, .int y3), (4, .int y4)] → W p l e rm_X1_collectPoints s m args below meth c H locs 0 0 (MQ below (gQ D sz ws0 (ws_X1_collectPoints cI cJ cB a0 a_bench a_sum a_spans a_bound a_body a_body_cells a_rowsOfPoints z.1 pointsPut takenOut body_rows body_cells body_cells_n z.2) none) args s 0 0 (va_A ws0 sz)) (F0 m 55 ls [.int s0]) := by
  obtain ⟨F, hr, hlk, hNw⟩ := id CX
  have hx := F.1
  have hb := F.2.1
  have hown := F.2.2.2.1
  have hA : ∀ q, s.heap.size ≤ q → va_A ws0 sz q := fun q hq => Or.inr (hsz ▸ hq)
  intro points rowsOfPoints y1 y2 y3 y4 s0 H locs ls h hP hD hS hl
  unfold f_X1_collectPoints_55 at h
  refine lv_istore (lv' := [(5, .int s0), (0, .ref a0), (1, .int y1), (2, .int y2), (3, .int y3), (4, .int y4)]) hx hb dX1_collectPoints_55 hl (by decide) rfl (fun ls hl => ?_)
  refine lv_iload hx hb dX1_collectPoints_57 (lv_at hl 0 rfl) ?_
  refine lv_if_eq (tgt := 99) hx hb dX1_collectPoints_59 (by decide) (fun c59 => ?_) (fun c59 => ?_)
  · have h := o_t c59 h
    exact w_X1_collectPoints_99 CX hK hsz (hK7 := hK7) points rowsOfPoints y1 y2 _ _ _ h hP hD hS (lv_sub hl [1, 2, 3] rfl)
  · have h := o_f c59 h
    refine lv_iload_n hx hb dX1_collectPoints_62 rfl (lv_at hl 4 rfl) ?_
    refine lv_if_eq (tgt := 99) hx hb dX1_collectPoints_63 (by decide) (fun c63 => ?_) (fun c63 => ?_)
    · have h := o_t c63 h
      exact w_X1_collectPoints_99 CX hK hsz (hK7 := hK7) points rowsOfPoints y1 y2 _ _ _ h hP hD hS (lv_sub hl [1, 2, 3] rfl)
    · have h := o_f c63 h
      refine lv_iload hx hb dX1_collectPoints_66 (lv_at hl 5 rfl) ?_
      refine lv_iconst (v := 3) hx hb dX1_collectPoints_68 (by decide) ?_
      refine lv_icmp_le (tgt := 76) hx hb dX1_collectPoints_69 (by decide) (fun c69 => ?_) (fun c69 => ?_)
      · have h := o_t c69 h
        exact w_X1_collectPoints_76 CX hK hsz (hK7 := hK7) points rowsOfPoints y1 y2 y4 _ _ _ h hP hD hS (lv_sub hl [1, 2, 3, 5] rfl)
      · have h := o_f c69 h
        refine lv_iload_n hx hb dX1_collectPoints_72 rfl (lv_at hl 4 rfl) ?_
        refine lv_if_ge (tgt := 99) hx hb dX1_collectPoints_73 (by decide) (fun c73 => ?_) (fun c73 => ?_)
        · have h := o_t c73 h
          exact w_X1_collectPoints_99 CX hK hsz (hK7 := hK7) points rowsOfPoints y1 y2 _ _ _ h hP hD hS (lv_sub hl [1, 2, 3] rfl)
        · have h := o_f c73 h
          exact w_X1_collectPoints_76 CX hK hsz (hK7 := hK7) points rowsOfPoints y1 y2 y4 _ _ _ h hP hD hS (lv_sub hl [1, 2, 3, 5] rfl)
set_option maxHeartbeats 4000000 in
set_option maxRecDepth 100000 in
theorem w_X1_collectPoints_54 (CX : Cx p m c cX1_collectPoints 6 s args x0 RX1 meth none) (hK : va_K D vwCl (ty0 cI cJ cB) s) (hsz : s.heap.size = sz) {K7 : Int32 → Int32 → (Nat → Int32) → Nat → (Nat → Int32) → Int32 → Int32 → Option ((Int32) × (Nat → Int32))} (hK7 : ∀ (points : Int32) (rowsOfPoints : Nat → Int32) (y1 : Int32) (y2 : Int32) (H : Heap) (locs : List Loc) (ls : Array Slot), K7 points body_rows body_cells body_cells_n rowsOfPoints y1 y2 = some z → va_P D vwCl (ws_X1_collectPoints cI cJ cB a0 a_bench a_sum a_spans a_bound a_body a_body_cells a_rowsOfPoints points pointsPut takenOut body_rows body_cells body_cells_n rowsOfPoints) H → va_D (va_A ws0 sz) (ws_X1_collectPoints cI cJ cB a0 a_bench a_sum a_spans a_bound a_body a_body_cells a_rowsOfPoints points pointsPut takenOut body_rows body_cells body_cells_n rowsOfPoints) → va_S (va_A ws0 sz) s.heap H locs → lv_has ls 6 [(0, .ref a0), (1, .int y1), (2, .int y2)] → W p l e rm_X1_collectPoints s m args below meth c H locs 0 0 (MQ below (gQ D sz ws0 (ws_X1_collectPoints cI cJ cB a0 a_bench a_sum a_spans a_bound a_body a_body_cells a_rowsOfPoints z.1 pointsPut takenOut body_rows body_cells body_cells_n z.2) none) args s 0 0 (va_A ws0 sz)) (F0 m 7 ls [])) : ∀ (points : Int32) (rowsOfPoints : Nat → Int32) (y1 : Int32) (y2 : Int32) (y3 : Int32) (y4 : Int32) (H : Heap) (locs : List Loc) (ls : Array Slot), f_X1_collectPoints_54 K7 N points body_rows body_cells body_cells_n rowsOfPoints y1 y2 y3 y4 = some z → va_P D vwCl (ws_X1_collectPoints cI cJ cB a0 a_bench a_sum a_spans a_bound a_body a_body_cells a_rowsOfPoints points pointsPut takenOut body_rows body_cells body_cells_n rowsOfPoints) H → va_D (va_A ws0 sz) (ws_X1_collectPoints cI cJ cB a0 a_bench a_sum a_spans a_bound a_body a_body_cells a_rowsOfPoints points pointsPut takenOut body_rows body_cells body_cells_n rowsOfPoints) → va_S (va_A ws0 sz) s.heap H locs → lv_has ls 6 [(0, .ref a0), (1, .int y1), (2, .int y2), (3, .int y3), (4, .int y4)] → W p l e rm_X1_collectPoints s m args below meth c H locs 0 0 (MQ below (gQ D sz ws0 (ws_X1_collectPoints cI cJ cB a0 a_bench a_sum a_spans a_bound a_body a_body_cells a_rowsOfPoints z.1 pointsPut takenOut body_rows body_cells body_cells_n z.2) none) args s 0 0 (va_A ws0 sz)) (F0 m 54 ls []) := by
  obtain ⟨F, hr, hlk, hNw⟩ := id CX
  have hx := F.1
  have hb := F.2.1
  have hown := F.2.2.2.1
  have hA : ∀ q, s.heap.size ≤ q → va_A ws0 sz q := fun q hq => Or.inr (hsz ▸ hq)
  intro points rowsOfPoints y1 y2 y3 y4 H locs ls h hP hD hS hl
  unfold f_X1_collectPoints_54 at h
  refine lv_iconst (v := 0) hx hb dX1_collectPoints_54 (by decide) ?_
  exact w_X1_collectPoints_55 CX hK hsz (hK7 := hK7) points rowsOfPoints y1 y2 y3 y4 0 _ _ _ h hP hD hS (lv_sub hl [0, 1, 2, 3, 4] rfl)
set_option maxHeartbeats 4000000 in
set_option maxRecDepth 100000 in
theorem w_X1_collectPoints_7 (CX : Cx p m c cX1_collectPoints 6 s args x0 RX1 meth none) (hK : va_K D vwCl (ty0 cI cJ cB) s) (hsz : s.heap.size = sz) : ∀ (n : Nat), ∀ (points : Int32) (rowsOfPoints : Nat → Int32) (y1 : Int32) (y2 : Int32) (H : Heap) (locs : List Loc) (ls : Array Slot), f_X1_collectPoints_7 N n points body_rows body_cells body_cells_n rowsOfPoints y1 y2 = some z → va_P D vwCl (ws_X1_collectPoints cI cJ cB a0 a_bench a_sum a_spans a_bound a_body a_body_cells a_rowsOfPoints points pointsPut takenOut body_rows body_cells body_cells_n rowsOfPoints) H → va_D (va_A ws0 sz) (ws_X1_collectPoints cI cJ cB a0 a_bench a_sum a_spans a_bound a_body a_body_cells a_rowsOfPoints points pointsPut takenOut body_rows body_cells body_cells_n rowsOfPoints) → va_S (va_A ws0 sz) s.heap H locs → lv_has ls 6 [(0, .ref a0), (1, .int y1), (2, .int y2)] → W p l e rm_X1_collectPoints s m args below meth c H locs 0 0 (MQ below (gQ D sz ws0 (ws_X1_collectPoints cI cJ cB a0 a_bench a_sum a_spans a_bound a_body a_body_cells a_rowsOfPoints z.1 pointsPut takenOut body_rows body_cells body_cells_n z.2) none) args s 0 0 (va_A ws0 sz)) (F0 m 7 ls []) := by
  obtain ⟨F, hr, hlk, hNw⟩ := id CX
  have hx := F.1
  have hb := F.2.1
  have hown := F.2.2.2.1
  have hA : ∀ q, s.heap.size ≤ q → va_A ws0 sz q := fun q hq => Or.inr (hsz ▸ hq)
  intro n
  induction n with
  | zero =>
    intro points rowsOfPoints y1 y2 H locs ls h
    cases h
  | succ n ih =>
    intro points rowsOfPoints y1 y2 H locs ls h hP hD hS hl
    unfold f_X1_collectPoints_7 at h
    refine lv_iload_n hx hb dX1_collectPoints_7 rfl (lv_at hl 2 rfl) ?_
    refine lv_aload_n hx hb dX1_collectPoints_8 rfl (lv_at hl 0 rfl) ?_
    refine r_get F hK hP 0 1 rfl inW_X1 wm_212 rfl (by decide) rfl dX1_collectPoints_9 ?_
    refine r_getN F hNw hK hP 1 1 rfl inW_X5 nf_X1_54 rfl (by decide) rfl dX1_collectPoints_12 ?_
    refine lv_icmp_ge (tgt := 105) hx hb dX1_collectPoints_15 (by decide) (fun c15 => ?_) (fun c15 => ?_)
    · have h := o_t c15 h
      obtain rfl := Option.some.inj h
      exact r_vret F hr hlk dX1_collectPoints_105 hsz hP hD hS
    · have h := o_f c15 h
      refine lv_aload_n hx hb dX1_collectPoints_18 rfl (lv_at hl 0 rfl) ?_
      refine r_get F hK hP 0 1 rfl inW_X1 wm_212 rfl (by decide) rfl dX1_collectPoints_19 ?_
      refine lv_iload_n hx hb dX1_collectPoints_22 rfl (lv_at hl 2 rfl) ?_
      refine lv_iload_n hx hb dX1_collectPoints_23 rfl (lv_at hl 1 rfl) ?_
      obtain ⟨z24, hz24, h⟩ := o_b h
      refine k_v (wn := (ws_X1_collectPoints cI cJ cB a0 a_bench a_sum a_spans a_bound a_body a_body_cells a_rowsOfPoints points pointsPut takenOut body_rows body_cells body_cells_n rowsOfPoints)) (As := [.int y2, .int y1]) (rest := []) F hNw hK hP hD hS hA (c_X5_number l D cI cJ cB a_body a_body_cells _ body_rows body_cells body_cells_n y2 y1 N hz24) wm_855 cv_X5_number [1, 2] [0, 3] [0, 2, 3, 1] (⟨rfl, rfl, rfl, by decide, rfl⟩ : Ix [1, 2] [0, 3] [0, 2, 3, 1] 4) rfl rfl rfl rfl rfl rfl ⟨rfl, rfl, by decide, by decide⟩ hl.1 rfl (Nat.le_of_ble_eq_true rfl) ⟨Nat.zero_le _, Nat.zero_le _⟩ dX1_collectPoints_24 (fun H locs hP hD hS => ?_)
      refine lv_istore_n (lv' := [(3, .int z24), (0, .ref a0), (1, .int y1), (2, .int y2)]) hx hb dX1_collectPoints_27 rfl hl (by decide) rfl (fun ls hl => ?_)
      refine lv_aload_n hx hb dX1_collectPoints_28 rfl (lv_at hl 1 rfl) ?_
      refine r_get F hK hP 0 1 rfl inW_X1 wm_212 rfl (by decide) rfl dX1_collectPoints_29 ?_
      refine lv_iload_n hx hb dX1_collectPoints_32 rfl (lv_at hl 3 rfl) ?_
      obtain ⟨z33, hz33, h⟩ := o_b h
      refine k_v (wn := (ws_X1_collectPoints cI cJ cB a0 a_bench a_sum a_spans a_bound a_body a_body_cells a_rowsOfPoints points pointsPut takenOut body_rows body_cells body_cells_n rowsOfPoints)) (As := [.int y2]) (rest := []) F hNw hK hP hD hS hA (c_X5_kind l D cI cJ cB a_body a_body_cells _ body_rows body_cells body_cells_n y2 N hz33) wm_832 cv_X5_kind [1, 2] [0, 3] [0, 2, 3, 1] (⟨rfl, rfl, rfl, by decide, rfl⟩ : Ix [1, 2] [0, 3] [0, 2, 3, 1] 4) rfl rfl rfl rfl rfl rfl ⟨rfl, rfl, by decide, by decide⟩ hl.1 rfl (Nat.le_of_ble_eq_true rfl) ⟨Nat.zero_le _, Nat.zero_le _⟩ dX1_collectPoints_33 (fun H locs hP hD hS => ?_)
      refine lv_istore (lv' := [(4, .int z33), (3, .int z24), (0, .ref a0), (1, .int y1), (2, .int y2)]) hx hb dX1_collectPoints_36 hl (by decide) rfl (fun ls hl => ?_)
      refine lv_iload hx hb dX1_collectPoints_38 (lv_at hl 0 rfl) ?_
      refine lv_iconst (v := 2) hx hb dX1_collectPoints_40 (by decide) ?_
      refine lv_icmp_lt (tgt := 54) hx hb dX1_collectPoints_41 (by decide) (fun c41 => ?_) (fun c41 => ?_)
      · have h := o_t c41 h
        exact w_X1_collectPoints_54 CX hK hsz (hK7 := ih) points rowsOfPoints y1 y2 z24 z33 _ _ _ h hP hD hS (lv_sub hl [2, 3, 4, 1, 0] rfl)
      · have h := o_f c41 h
        refine lv_iload hx hb dX1_collectPoints_44 (lv_at hl 0 rfl) ?_
        refine lv_iconst (v := 5) hx hb dX1_collectPoints_46 (by decide) ?_
        refine lv_icmp_gt (tgt := 54) hx hb dX1_collectPoints_47 (by decide) (fun c47 => ?_) (fun c47 => ?_)
        · have h := o_t c47 h
          exact w_X1_collectPoints_54 CX hK hsz (hK7 := ih) points rowsOfPoints y1 y2 z24 z33 _ _ _ h hP hD hS (lv_sub hl [2, 3, 4, 1, 0] rfl)
        · have h := o_f c47 h
          refine lv_iconst (v := 1) hx hb dX1_collectPoints_50 (by decide) ?_
          refine lv_goto (tgt := 55) hx hb dX1_collectPoints_51 (by decide) ?_
          exact w_X1_collectPoints_55 CX hK hsz (hK7 := ih) points rowsOfPoints y1 y2 z24 z33 1 _ _ _ h hP hD hS (lv_sub hl [2, 3, 4, 1, 0] rfl)
end G_X1_collectPoints
set_option maxHeartbeats 4000000 in
set_option maxRecDepth 100000 in
theorem c_X1_collectPoints (l : Launch) (D : va_G) (cI cJ cB : ClassId) (a0 a_bench a_sum a_spans a_bound a_body a_body_cells a_rowsOfPoints : Nat) (sz : Nat) (points : Int32) (pointsPut : Int32) (takenOut : Int32) (body_rows : Int32) (body_cells : Nat → Int32) (body_cells_n : Nat) (rowsOfPoints : Nat → Int32) (x1 : Int32) (N : Nat) {z : (Int32) × (Nat → Int32)} (h : f_X1_collectPoints N points body_rows body_cells body_cells_n rowsOfPoints x1 = some z) : Mg l yX1_collectPoints cX1_collectPoints 6 none rm_X1_collectPoints D (ty0 cI cJ cB) [.ref a0, .int x1] sz (ws_X1_collectPoints cI cJ cB a0 a_bench a_sum a_spans a_bound a_body a_body_cells a_rowsOfPoints points pointsPut takenOut body_rows body_cells body_cells_n rowsOfPoints) none (ws_X1_collectPoints cI cJ cB a0 a_bench a_sum a_spans a_bound a_body a_body_cells a_rowsOfPoints z.1 pointsPut takenOut body_rows body_cells body_cells_n z.2) := by
  refine Mg.of (by decide) (Nat.le_of_ble_eq_true rfl) ?_
  intro p e s m below meth c CX hK hsz hP hD ls hl
  have CX : Cx p m c cX1_collectPoints 6 s ([.ref a0, .int x1] : List Value).toArray (Cond.code yX1_collectPoints cX1_collectPoints 6 none) RX1 meth none := CX
  obtain ⟨F, hr, hlk, hNw⟩ := id CX
  have hx := F.1
  have hb := F.2.1
  have hown := F.2.2.2.1
  have hl : lv_has ls 6 [(0, .ref a0), (1, .int x1)] := hl
  have hS : va_S (va_A (ws_X1_collectPoints cI cJ cB a0 a_bench a_sum a_spans a_bound a_body a_body_cells a_rowsOfPoints points pointsPut takenOut body_rows body_cells body_cells_n rowsOfPoints) sz) s.heap s.heap [] := va_S.rf
  have hA : ∀ q, s.heap.size ≤ q → va_A (ws_X1_collectPoints cI cJ cB a0 a_bench a_sum a_spans a_bound a_body a_body_cells a_rowsOfPoints points pointsPut takenOut body_rows body_cells body_cells_n rowsOfPoints) sz q := fun q hq => Or.inr (hsz ▸ hq)
  unfold f_X1_collectPoints at h
  refine lv_aload_n hx hb dX1_collectPoints_0 rfl (lv_at hl 0 rfl) ?_
  refine lv_iconst (v := 1) hx hb dX1_collectPoints_1 (by decide) ?_
  refine r_put (wn := (ws_X1_collectPoints cI cJ cB a0 a_bench a_sum a_spans a_bound a_body a_body_cells a_rowsOfPoints 1 pointsPut takenOut body_rows body_cells body_cells_n rowsOfPoints)) F hK hP hD hS 0 6 rfl inW_X1 wm_217 tyX1_ok nmX1 rfl rfl (by decide) rfl rfl (Nat.le_of_ble_eq_true rfl) rfl dX1_collectPoints_2 (fun H locs hP hD hS => ?_)
  refine lv_iconst (v := 0) hx hb dX1_collectPoints_5 (by decide) ?_
  refine lv_istore_n (lv' := [(2, .int 0), (0, .ref a0), (1, .int x1)]) hx hb dX1_collectPoints_6 rfl hl (by decide) rfl (fun ls hl => ?_)
  exact w_X1_collectPoints_7 CX hK hsz N 1 rowsOfPoints x1 0 _ _ _ h hP hD hS (lv_sub hl [1, 2, 0] rfl)
section G_X1_takeOut
abbrev ws_X1_takeOut (cI cJ cB : ClassId) (a0 a_spans a_bound a_bench a_bench_tree a_bench_tree_cells a_bench_starts a_bench_looses a_body a_body_cells a_sum a_sum_numbers a_rowsOfPoints : Nat) (points : Int32) (pointsPut : Int32) (takenOut : Int32) (bench_parts : Int32) (bench_tree_rows : Int32) (bench_tree_cells : Nat → Int32) (bench_tree_cells_n : Nat) (bench_starts : Nat → Int32) (bench_looses : Nat → Int32) (body_rows : Int32) (body_cells : Nat → Int32) (body_cells_n : Nat) (sum_numbers : Nat → Int64) (rowsOfPoints : Nat → Int32) : va_W := [(a0, .inr (3, [.ref a_bench, .ref a_body, .ref a_sum, .ref a_rowsOfPoints, .ref a_spans, .ref a_bound, .int points, .int pointsPut, .int takenOut])), (a_bench, .inr (2, [.ref a_bench_tree, .ref a_bench_starts, .ref a_bench_looses, .int bench_parts])), (a_bench_tree, .inr (7, [.ref a_bench_tree_cells, .int bench_tree_rows])), (a_bench_tree_cells, .inl (cI, bench_tree_cells_n, .inl bench_tree_cells)), (a_bench_starts, .inl (cI, 402, .inl bench_starts)), (a_bench_looses, .inl (cI, 402, .inl bench_looses)), (a_body, .inr (7, [.ref a_body_cells, .int body_rows])), (a_body_cells, .inl (cI, body_cells_n, .inl body_cells)), (a_sum, .inr (6, [.ref a_sum_numbers])), (a_sum_numbers, .inl (cJ, 9, .inr (.inl sum_numbers))), (a_rowsOfPoints, .inl (cI, 4411, .inl rowsOfPoints))]
abbrev rm_X1_takeOut : Room := { frames := 6, cells := 0, slots := 0, locals := 150 }
def f_X1_takeOut_96 (N : Nat) (points : Int32) (pointsPut : Int32) (takenOut : Int32) (bench_parts : Int32) (bench_tree_rows : Int32) (bench_tree_cells : Nat → Int32) (bench_tree_cells_n : Nat) (bench_starts : Nat → Int32) (bench_looses : Nat → Int32) (body_rows : Int32) (body_cells : Nat → Int32) (body_cells_n : Nat) (sum_numbers : Nat → Int64) (rowsOfPoints : Nat → Int32) : Option (Int32 × (Int32) × (Int32) × (Int32) × (Int32) × (Int32) × (Nat → Int32) × (Nat → Int32) × (Nat → Int32) × (Int32) × (Nat → Int32) × (Nat → Int64) × (Nat → Int32)) := some (0, points, pointsPut, takenOut, bench_parts, bench_tree_rows, bench_tree_cells, bench_starts, bench_looses, body_rows, body_cells, sum_numbers, rowsOfPoints)
def f_X1_takeOut_168 (N : Nat) (points : Int32) (pointsPut : Int32) (takenOut : Int32) (bench_parts : Int32) (bench_tree_rows : Int32) (bench_tree_cells : Nat → Int32) (bench_tree_cells_n : Nat) (bench_starts : Nat → Int32) (bench_looses : Nat → Int32) (body_rows : Int32) (body_cells : Nat → Int32) (body_cells_n : Nat) (sum_numbers : Nat → Int64) (rowsOfPoints : Nat → Int32) : Option (Int32 × (Int32) × (Int32) × (Int32) × (Int32) × (Int32) × (Nat → Int32) × (Nat → Int32) × (Nat → Int32) × (Int32) × (Nat → Int32) × (Nat → Int64) × (Nat → Int32)) := some (1, points, pointsPut, takenOut, bench_parts, bench_tree_rows, bench_tree_cells, bench_starts, bench_looses, body_rows, body_cells, sum_numbers, rowsOfPoints)
def f_X1_takeOut_145 (N : Nat) (points : Int32) (pointsPut : Int32) (takenOut : Int32) (bench_parts : Int32) (bench_tree_rows : Int32) (bench_tree_cells : Nat → Int32) (bench_tree_cells_n : Nat) (bench_starts : Nat → Int32) (bench_looses : Nat → Int32) (body_rows : Int32) (body_cells : Nat → Int32) (body_cells_n : Nat) (sum_numbers : Nat → Int64) (rowsOfPoints : Nat → Int32) (y1 : Int32) : Option (Int32 × (Int32) × (Int32) × (Int32) × (Int32) × (Int32) × (Nat → Int32) × (Nat → Int32) × (Nat → Int32) × (Int32) × (Nat → Int32) × (Nat → Int64) × (Nat → Int32)) := ifb (y1 = 9) ((f_X0_negateLast N bench_parts bench_tree_rows bench_tree_cells bench_tree_cells_n bench_starts).bind (fun z165 => f_X1_takeOut_168 N points pointsPut (takenOut + 1) bench_parts bench_tree_rows z165 bench_tree_cells_n bench_starts bench_looses body_rows body_cells body_cells_n sum_numbers rowsOfPoints)) (f_X1_takeOut_168 N points pointsPut (takenOut + 1) bench_parts bench_tree_rows bench_tree_cells bench_tree_cells_n bench_starts bench_looses body_rows body_cells body_cells_n sum_numbers rowsOfPoints)
def f_X1_takeOut_111 (K47 : Int32 → Int32 → Int32 → Int32 → Int32 → (Nat → Int32) → Nat → (Nat → Int32) → (Nat → Int32) → Int32 → (Nat → Int32) → Nat → (Nat → Int64) → (Nat → Int32) → Int32 → Int32 → Int32 → Option (Int32 × (Int32) × (Int32) × (Int32) × (Int32) × (Int32) × (Nat → Int32) × (Nat → Int32) × (Nat → Int32) × (Int32) × (Nat → Int32) × (Nat → Int64) × (Nat → Int32))) (N : Nat) (points : Int32) (pointsPut : Int32) (takenOut : Int32) (bench_parts : Int32) (bench_tree_rows : Int32) (bench_tree_cells : Nat → Int32) (bench_tree_cells_n : Nat) (bench_starts : Nat → Int32) (bench_looses : Nat → Int32) (body_rows : Int32) (body_cells : Nat → Int32) (body_cells_n : Nat) (sum_numbers : Nat → Int64) (rowsOfPoints : Nat → Int32) (y1 : Int32) (y2 : Int32) (y3 : Int32) : Option (Int32 × (Int32) × (Int32) × (Int32) × (Int32) × (Int32) × (Nat → Int32) × (Nat → Int32) × (Nat → Int32) × (Int32) × (Nat → Int32) × (Nat → Int64) × (Nat → Int32)) := (f_X0_lastNodes N bench_parts bench_tree_rows bench_starts).bind (fun z115 => ifb (z115 ≤ 400) ((f_X0_lastKind N bench_tree_rows bench_tree_cells bench_tree_cells_n).bind (fun z130 => ifb (z130 = 0) (f_X1_takeOut_145 N points pointsPut takenOut bench_parts bench_tree_rows bench_tree_cells bench_tree_cells_n bench_starts bench_looses body_rows body_cells body_cells_n sum_numbers rowsOfPoints y1) (K47 points pointsPut takenOut bench_parts bench_tree_rows bench_tree_cells bench_tree_cells_n bench_starts bench_looses body_rows body_cells body_cells_n sum_numbers rowsOfPoints y1 y2 (y3 + 1)))) (some (0, points, pointsPut, takenOut, bench_parts, bench_tree_rows, bench_tree_cells, bench_starts, bench_looses, body_rows, body_cells, sum_numbers, rowsOfPoints)))
def f_X1_takeOut_47 (N : Nat) : Nat → Int32 → Int32 → Int32 → Int32 → Int32 → (Nat → Int32) → Nat → (Nat → Int32) → (Nat → Int32) → Int32 → (Nat → Int32) → Nat → (Nat → Int64) → (Nat → Int32) → Int32 → Int32 → Int32 → Option (Int32 × (Int32) × (Int32) × (Int32) × (Int32) × (Int32) × (Nat → Int32) × (Nat → Int32) × (Nat → Int32) × (Int32) × (Nat → Int32) × (Nat → Int64) × (Nat → Int32))
  | 0 => fun _ _ _ _ _ _ _ _ _ _ _ _ _ _ _ _ _ => none
  | n + 1 => fun points pointsPut takenOut bench_parts bench_tree_rows bench_tree_cells bench_tree_cells_n bench_starts bench_looses body_rows body_cells body_cells_n sum_numbers rowsOfPoints y1 y2 y3 => ifb (points ≤ y3) (f_X1_takeOut_145 N points pointsPut takenOut bench_parts bench_tree_rows bench_tree_cells bench_tree_cells_n bench_starts bench_looses body_rows body_cells body_cells_n sum_numbers rowsOfPoints y1) ((f_X5_reserve N bench_tree_rows bench_tree_cells_n (body_rows + 1)).bind (fun z81 => ifb (z81 = 0) (f_X1_takeOut_96 N points (pointsPut + 1) takenOut bench_parts bench_tree_rows bench_tree_cells bench_tree_cells_n bench_starts bench_looses body_rows body_cells body_cells_n sum_numbers rowsOfPoints) ((f_X1_putIn N bench_parts bench_tree_rows bench_tree_cells bench_tree_cells_n bench_starts bench_looses body_rows body_cells body_cells_n sum_numbers rowsOfPoints y2 y3).bind (fun z90 => ifb (z90.1 = 0) (f_X1_takeOut_96 N points (pointsPut + 1) takenOut z90.2.1 z90.2.2.1 z90.2.2.2.1 bench_tree_cells_n z90.2.2.2.2.1 z90.2.2.2.2.2.1 body_rows body_cells body_cells_n z90.2.2.2.2.2.2 rowsOfPoints) (ifb (y3 = 0) (f_X1_takeOut_111 (f_X1_takeOut_47 N n) N points (pointsPut + 1) takenOut z90.2.1 z90.2.2.1 z90.2.2.2.1 bench_tree_cells_n z90.2.2.2.2.1 z90.2.2.2.2.2.1 body_rows body_cells body_cells_n z90.2.2.2.2.2.2 rowsOfPoints y1 y2 y3) ((f_X0_join N z90.2.1 z90.2.2.1 z90.2.2.2.1 bench_tree_cells_n z90.2.2.2.2.1 z90.2.2.2.2.2.1 7).bind (fun z108 => f_X1_takeOut_111 (f_X1_takeOut_47 N n) N points (pointsPut + 1) takenOut z108.1 z108.2.1 z108.2.2.1 bench_tree_cells_n z90.2.2.2.2.1 z108.2.2.2 body_rows body_cells body_cells_n z90.2.2.2.2.2.2 rowsOfPoints y1 y2 y3)))))))
def f_X1_takeOut_29 (N : Nat) (points : Int32) (pointsPut : Int32) (takenOut : Int32) (bench_parts : Int32) (bench_tree_rows : Int32) (bench_tree_cells : Nat → Int32) (bench_tree_cells_n : Nat) (bench_starts : Nat → Int32) (bench_looses : Nat → Int32) (body_rows : Int32) (body_cells : Nat → Int32) (body_cells_n : Nat) (sum_numbers : Nat → Int64) (rowsOfPoints : Nat → Int32) (y1 : Int32) (y2 : Int32) : Option (Int32 × (Int32) × (Int32) × (Int32) × (Int32) × (Int32) × (Nat → Int32) × (Nat → Int32) × (Nat → Int32) × (Int32) × (Nat → Int32) × (Nat → Int64) × (Nat → Int32)) := (f_X0_moveLast N bench_parts bench_tree_rows bench_tree_cells bench_tree_cells_n bench_starts body_rows body_cells body_cells_n).bind (fun z37 => (f_X1_collectPoints N points z37.2.2.1 z37.2.2.2 body_cells_n rowsOfPoints y2).bind (fun z42 => f_X1_takeOut_47 N N z42.1 pointsPut takenOut z37.1 z37.2.1 bench_tree_cells bench_tree_cells_n bench_starts bench_looses z37.2.2.1 z37.2.2.2 body_cells_n sum_numbers z42.2 y1 y2 0))
def f_X1_takeOut (N : Nat) (points : Int32) (pointsPut : Int32) (takenOut : Int32) (bench_parts : Int32) (bench_tree_rows : Int32) (bench_tree_cells : Nat → Int32) (bench_tree_cells_n : Nat) (bench_starts : Nat → Int32) (bench_looses : Nat → Int32) (body_rows : Int32) (body_cells : Nat → Int32) (body_cells_n : Nat) (sum_numbers : Nat → Int64) (rowsOfPoints : Nat → Int32) (x1 : Int32) (x2 : Int32) : Option (Int32 × (Int32) × (Int32) × (Int32) × (Int32) × (Int32) × (Nat → Int32) × (Nat → Int32) × (Nat → Int32) × (Int32) × (Nat → Int32) × (Nat → Int64) × (Nat → Int32)) := (f_X0_lastLoose N bench_parts bench_looses).bind (fun z4 => ifb (((z4 >>> (x2 &&& 31)) &&& 1) = 0) (some (1, points, pointsPut, takenOut, bench_parts, bench_tree_rows, bench_tree_cells, bench_starts, bench_looses, body_rows, body_cells, sum_numbers, rowsOfPoints)) (ifb (x1 = 9) ((f_X0_negateLast N bench_parts bench_tree_rows bench_tree_cells bench_tree_cells_n bench_starts).bind (fun z26 => f_X1_takeOut_29 N points pointsPut takenOut bench_parts bench_tree_rows z26 bench_tree_cells_n bench_starts bench_looses body_rows body_cells body_cells_n sum_numbers rowsOfPoints x1 x2)) (f_X1_takeOut_29 N points pointsPut takenOut bench_parts bench_tree_rows bench_tree_cells bench_tree_cells_n bench_starts bench_looses body_rows body_cells body_cells_n sum_numbers rowsOfPoints x1 x2)))
variable {p : Program} {l : Launch} {e : Env} {s : State} {m : MethodId} {below : List Frame} {meth : Method} {c : Code} {args : Array Value} {x0 : Cond} {D : va_G} {cI cJ cB : ClassId} {sz N : Nat} {ws0 : va_W} {a0 a_spans a_bound a_bench a_bench_tree a_bench_tree_cells a_bench_starts a_bench_looses a_body a_body_cells a_sum a_sum_numbers a_rowsOfPoints : Nat} {bench_tree_cells_n : Nat} {body_cells_n : Nat} {z : Int32 × (Int32) × (Int32) × (Int32) × (Int32) × (Int32) × (Nat → Int32) × (Nat → Int32) × (Nat → Int32) × (Int32) × (Nat → Int32) × (Nat → Int64) × (Nat → Int32)}
set_option maxHeartbeats 4000000 in
set_option maxRecDepth 100000 in
theorem w_X1_takeOut_96 (CX : Cx p m c cX1_takeOut 4 s args x0 RX1 meth (some .boolean)) (hK : va_K D vwCl (ty0 cI cJ cB) s) (hsz : s.heap.size = sz) : ∀ (points : Int32) (pointsPut : Int32) (takenOut : Int32) (bench_parts : Int32) (bench_tree_rows : Int32) (bench_tree_cells : Nat → Int32) (bench_starts : Nat → Int32) (bench_looses : Nat → Int32) (body_rows : Int32) (body_cells : Nat → Int32) (sum_numbers : Nat → Int64) (rowsOfPoints : Nat → Int32) (H : Heap) (locs : List Loc) (ls : Array Slot), f_X1_takeOut_96 N points pointsPut takenOut bench_parts bench_tree_rows bench_tree_cells bench_tree_cells_n bench_starts bench_looses body_rows body_cells body_cells_n sum_numbers rowsOfPoints = some z → va_P D vwCl (ws_X1_takeOut cI cJ cB a0 a_spans a_bound a_bench a_bench_tree a_bench_tree_cells a_bench_starts a_bench_looses a_body a_body_cells a_sum a_sum_numbers a_rowsOfPoints points pointsPut takenOut bench_parts bench_tree_rows bench_tree_cells bench_tree_cells_n bench_starts bench_looses body_rows body_cells body_cells_n sum_numbers rowsOfPoints) H → va_D (va_A ws0 sz) (ws_X1_takeOut cI cJ cB a0 a_spans a_bound a_bench a_bench_tree a_bench_tree_cells a_bench_starts a_bench_looses a_body a_body_cells a_sum a_sum_numbers a_rowsOfPoints points pointsPut takenOut bench_parts bench_tree_rows bench_tree_cells bench_tree_cells_n bench_starts bench_looses body_rows body_cells body_cells_n sum_numbers rowsOfPoints) → va_S (va_A ws0 sz) s.heap H locs → lv_has ls 4 [] → W p l e rm_X1_takeOut s m args below meth c H locs 0 0 (MQ below (gQ D sz ws0 (ws_X1_takeOut cI cJ cB a0 a_spans a_bound a_bench a_bench_tree a_bench_tree_cells a_bench_starts a_bench_looses a_body a_body_cells a_sum a_sum_numbers a_rowsOfPoints z.2.1 z.2.2.1 z.2.2.2.1 z.2.2.2.2.1 z.2.2.2.2.2.1 z.2.2.2.2.2.2.1 bench_tree_cells_n z.2.2.2.2.2.2.2.1 z.2.2.2.2.2.2.2.2.1 z.2.2.2.2.2.2.2.2.2.1 z.2.2.2.2.2.2.2.2.2.2.1 body_cells_n z.2.2.2.2.2.2.2.2.2.2.2.1 z.2.2.2.2.2.2.2.2.2.2.2.2) (some (.int z.1))) args s 0 0 (va_A ws0 sz)) (F0 m 96 ls []) := by
  obtain ⟨F, hr, hlk, hNw⟩ := id CX
  have hx := F.1
  have hb := F.2.1
  have hown := F.2.2.2.1
  have hA : ∀ q, s.heap.size ≤ q → va_A ws0 sz q := fun q hq => Or.inr (hsz ▸ hq)
  intro points pointsPut takenOut bench_parts bench_tree_rows bench_tree_cells bench_starts bench_looses body_rows body_cells sum_numbers rowsOfPoints H locs ls h hP hD hS hl
  unfold f_X1_takeOut_96 at h
  refine lv_iconst (v := 0) hx hb dX1_takeOut_96 (by decide) ?_
  obtain rfl := Option.some.inj h
  exact r_ret (v := 0) F hr hlk rfl dX1_takeOut_97 hsz hP hD hS
set_option maxHeartbeats 4000000 in
set_option maxRecDepth 100000 in
theorem w_X1_takeOut_168 (CX : Cx p m c cX1_takeOut 4 s args x0 RX1 meth (some .boolean)) (hK : va_K D vwCl (ty0 cI cJ cB) s) (hsz : s.heap.size = sz) : ∀ (points : Int32) (pointsPut : Int32) (takenOut : Int32) (bench_parts : Int32) (bench_tree_rows : Int32) (bench_tree_cells : Nat → Int32) (bench_starts : Nat → Int32) (bench_looses : Nat → Int32) (body_rows : Int32) (body_cells : Nat → Int32) (sum_numbers : Nat → Int64) (rowsOfPoints : Nat → Int32) (H : Heap) (locs : List Loc) (ls : Array Slot), f_X1_takeOut_168 N points pointsPut takenOut bench_parts bench_tree_rows bench_tree_cells bench_tree_cells_n bench_starts bench_looses body_rows body_cells body_cells_n sum_numbers rowsOfPoints = some z → va_P D vwCl (ws_X1_takeOut cI cJ cB a0 a_spans a_bound a_bench a_bench_tree a_bench_tree_cells a_bench_starts a_bench_looses a_body a_body_cells a_sum a_sum_numbers a_rowsOfPoints points pointsPut takenOut bench_parts bench_tree_rows bench_tree_cells bench_tree_cells_n bench_starts bench_looses body_rows body_cells body_cells_n sum_numbers rowsOfPoints) H → va_D (va_A ws0 sz) (ws_X1_takeOut cI cJ cB a0 a_spans a_bound a_bench a_bench_tree a_bench_tree_cells a_bench_starts a_bench_looses a_body a_body_cells a_sum a_sum_numbers a_rowsOfPoints points pointsPut takenOut bench_parts bench_tree_rows bench_tree_cells bench_tree_cells_n bench_starts bench_looses body_rows body_cells body_cells_n sum_numbers rowsOfPoints) → va_S (va_A ws0 sz) s.heap H locs → lv_has ls 4 [] → W p l e rm_X1_takeOut s m args below meth c H locs 0 0 (MQ below (gQ D sz ws0 (ws_X1_takeOut cI cJ cB a0 a_spans a_bound a_bench a_bench_tree a_bench_tree_cells a_bench_starts a_bench_looses a_body a_body_cells a_sum a_sum_numbers a_rowsOfPoints z.2.1 z.2.2.1 z.2.2.2.1 z.2.2.2.2.1 z.2.2.2.2.2.1 z.2.2.2.2.2.2.1 bench_tree_cells_n z.2.2.2.2.2.2.2.1 z.2.2.2.2.2.2.2.2.1 z.2.2.2.2.2.2.2.2.2.1 z.2.2.2.2.2.2.2.2.2.2.1 body_cells_n z.2.2.2.2.2.2.2.2.2.2.2.1 z.2.2.2.2.2.2.2.2.2.2.2.2) (some (.int z.1))) args s 0 0 (va_A ws0 sz)) (F0 m 168 ls []) := by
  obtain ⟨F, hr, hlk, hNw⟩ := id CX
  have hx := F.1
  have hb := F.2.1
  have hown := F.2.2.2.1
  have hA : ∀ q, s.heap.size ≤ q → va_A ws0 sz q := fun q hq => Or.inr (hsz ▸ hq)
  intro points pointsPut takenOut bench_parts bench_tree_rows bench_tree_cells bench_starts bench_looses body_rows body_cells sum_numbers rowsOfPoints H locs ls h hP hD hS hl
  unfold f_X1_takeOut_168 at h
  refine lv_iconst (v := 1) hx hb dX1_takeOut_168 (by decide) ?_
  obtain rfl := Option.some.inj h
  exact r_ret (v := 1) F hr hlk rfl dX1_takeOut_169 hsz hP hD hS
set_option maxHeartbeats 4000000 in
set_option maxRecDepth 100000 in
theorem w_X1_takeOut_145 (CX : Cx p m c cX1_takeOut 4 s args x0 RX1 meth (some .boolean)) (hK : va_K D vwCl (ty0 cI cJ cB) s) (hsz : s.heap.size = sz) : ∀ (points : Int32) (pointsPut : Int32) (takenOut : Int32) (bench_parts : Int32) (bench_tree_rows : Int32) (bench_tree_cells : Nat → Int32) (bench_starts : Nat → Int32) (bench_looses : Nat → Int32) (body_rows : Int32) (body_cells : Nat → Int32) (sum_numbers : Nat → Int64) (rowsOfPoints : Nat → Int32) (y1 : Int32) (H : Heap) (locs : List Loc) (ls : Array Slot), f_X1_takeOut_145 N points pointsPut takenOut bench_parts bench_tree_rows bench_tree_cells bench_tree_cells_n bench_starts bench_looses body_rows body_cells body_cells_n sum_numbers rowsOfPoints y1 = some z → va_P D vwCl (ws_X1_takeOut cI cJ cB a0 a_spans a_bound a_bench a_bench_tree a_bench_tree_cells a_bench_starts a_bench_looses a_body a_body_cells a_sum a_sum_numbers a_rowsOfPoints points pointsPut takenOut bench_parts bench_tree_rows bench_tree_cells bench_tree_cells_n bench_starts bench_looses body_rows body_cells body_cells_n sum_numbers rowsOfPoints) H → va_D (va_A ws0 sz) (ws_X1_takeOut cI cJ cB a0 a_spans a_bound a_bench a_bench_tree a_bench_tree_cells a_bench_starts a_bench_looses a_body a_body_cells a_sum a_sum_numbers a_rowsOfPoints points pointsPut takenOut bench_parts bench_tree_rows bench_tree_cells bench_tree_cells_n bench_starts bench_looses body_rows body_cells body_cells_n sum_numbers rowsOfPoints) → va_S (va_A ws0 sz) s.heap H locs → lv_has ls 4 [(0, .ref a0), (1, .int y1)] → W p l e rm_X1_takeOut s m args below meth c H locs 0 0 (MQ below (gQ D sz ws0 (ws_X1_takeOut cI cJ cB a0 a_spans a_bound a_bench a_bench_tree a_bench_tree_cells a_bench_starts a_bench_looses a_body a_body_cells a_sum a_sum_numbers a_rowsOfPoints z.2.1 z.2.2.1 z.2.2.2.1 z.2.2.2.2.1 z.2.2.2.2.2.1 z.2.2.2.2.2.2.1 bench_tree_cells_n z.2.2.2.2.2.2.2.1 z.2.2.2.2.2.2.2.2.1 z.2.2.2.2.2.2.2.2.2.1 z.2.2.2.2.2.2.2.2.2.2.1 body_cells_n z.2.2.2.2.2.2.2.2.2.2.2.1 z.2.2.2.2.2.2.2.2.2.2.2.2) (some (.int z.1))) args s 0 0 (va_A ws0 sz)) (F0 m 145 ls []) := by
  obtain ⟨F, hr, hlk, hNw⟩ := id CX
  have hx := F.1
  have hb := F.2.1
  have hown := F.2.2.2.1
  have hA : ∀ q, s.heap.size ≤ q → va_A ws0 sz q := fun q hq => Or.inr (hsz ▸ hq)
  intro points pointsPut takenOut bench_parts bench_tree_rows bench_tree_cells bench_starts bench_looses body_rows body_cells sum_numbers rowsOfPoints y1 H locs ls h hP hD hS hl
  unfold f_X1_takeOut_145 at h
  refine lv_aload_n hx hb dX1_takeOut_145 rfl (lv_at hl 0 rfl) ?_
  refine lv_dup hx hb dX1_takeOut_146 rfl ?_
  refine r_get F hK hP 0 8 rfl inW_X1 wm_220 rfl (by decide) rfl dX1_takeOut_147 ?_
  refine lv_iconst (v := 1) hx hb dX1_takeOut_150 (by decide) ?_
  refine lv_iadd hx hb dX1_takeOut_151 ?_
  refine r_put (wn := (ws_X1_takeOut cI cJ cB a0 a_spans a_bound a_bench a_bench_tree a_bench_tree_cells a_bench_starts a_bench_looses a_body a_body_cells a_sum a_sum_numbers a_rowsOfPoints points pointsPut (takenOut + 1) bench_parts bench_tree_rows bench_tree_cells bench_tree_cells_n bench_starts bench_looses body_rows body_cells body_cells_n sum_numbers rowsOfPoints)) F hK hP hD hS 0 8 rfl inW_X1 wm_220 tyX1_ok nmX1 rfl rfl (by decide) rfl rfl (Nat.le_of_ble_eq_true rfl) rfl dX1_takeOut_152 (fun H locs hP hD hS => ?_)
  refine lv_iload_n hx hb dX1_takeOut_155 rfl (lv_at hl 1 rfl) ?_
  refine lv_bipush (v := 9) hx hb dX1_takeOut_156 (by decide) ?_
  refine lv_icmp_ne (tgt := 168) hx hb dX1_takeOut_158 (by decide) (fun c158 => ?_) (fun c158 => ?_)
  · have h := o_f c158 h
    exact w_X1_takeOut_168 CX hK hsz points pointsPut (takenOut + 1) bench_parts bench_tree_rows bench_tree_cells bench_starts bench_looses body_rows body_cells sum_numbers rowsOfPoints _ _ _ h hP hD hS (lv_sub hl [] rfl)
  · have h := o_t c158 h
    refine lv_aload_n hx hb dX1_takeOut_161 rfl (lv_at hl 0 rfl) ?_
    refine r_get F hK hP 0 0 rfl inW_X1 wm_210 rfl (by decide) rfl dX1_takeOut_162 ?_
    obtain ⟨z165, hz165, h⟩ := o_b h
    refine k_v (wn := (ws_X1_takeOut cI cJ cB a0 a_spans a_bound a_bench a_bench_tree a_bench_tree_cells a_bench_starts a_bench_looses a_body a_body_cells a_sum a_sum_numbers a_rowsOfPoints points pointsPut (takenOut + 1) bench_parts bench_tree_rows z165 bench_tree_cells_n bench_starts bench_looses body_rows body_cells body_cells_n sum_numbers rowsOfPoints)) (As := []) (rest := []) F hNw hK hP hD hS hA (c_X0_negateLast l D cI cJ cB a_bench a_bench_looses a_bench_tree a_bench_tree_cells a_bench_starts _ bench_parts bench_tree_rows bench_tree_cells bench_tree_cells_n bench_starts N hz165) wm_861 cv_X0_negateLast [1, 2, 3, 4] [0, 5, 6, 7, 8, 9, 10] [0, 7, 8, 9, 10, 1, 2, 3, 4, 5, 6] (⟨rfl, rfl, rfl, by decide, rfl⟩ : Ix [1, 2, 3, 4] [0, 5, 6, 7, 8, 9, 10] [0, 7, 8, 9, 10, 1, 2, 3, 4, 5, 6] 11) rfl rfl rfl rfl rfl rfl ⟨rfl, rfl, by decide, by decide⟩ hl.1 rfl (Nat.le_of_ble_eq_true rfl) ⟨Nat.zero_le _, Nat.zero_le _⟩ dX1_takeOut_165 (fun H locs hP hD hS => ?_)
    exact w_X1_takeOut_168 CX hK hsz points pointsPut (takenOut + 1) bench_parts bench_tree_rows z165 bench_starts bench_looses body_rows body_cells sum_numbers rowsOfPoints _ _ _ h hP hD hS (lv_sub hl [] rfl)
set_option maxHeartbeats 4000000 in
set_option maxRecDepth 100000 in
theorem w_X1_takeOut_111 (CX : Cx p m c cX1_takeOut 4 s args x0 RX1 meth (some .boolean)) (hK : va_K D vwCl (ty0 cI cJ cB) s) (hsz : s.heap.size = sz) {K47 : Int32 → Int32 → Int32 → Int32 → Int32 → (Nat → Int32) → Nat → (Nat → Int32) → (Nat → Int32) → Int32 → (Nat → Int32) → Nat → (Nat → Int64) → (Nat → Int32) → Int32 → Int32 → Int32 → Option (Int32 × (Int32) × (Int32) × (Int32) × (Int32) × (Int32) × (Nat → Int32) × (Nat → Int32) × (Nat → Int32) × (Int32) × (Nat → Int32) × (Nat → Int64) × (Nat → Int32))} (hK47 : ∀ (points : Int32) (pointsPut : Int32) (takenOut : Int32) (bench_parts : Int32) (bench_tree_rows : Int32) (bench_tree_cells : Nat → Int32) (bench_starts : Nat → Int32) (bench_looses : Nat → Int32) (body_rows : Int32) (body_cells : Nat → Int32) (sum_numbers : Nat → Int64) (rowsOfPoints : Nat → Int32) (y1 : Int32) (y2 : Int32) (y3 : Int32) (H : Heap) (locs : List Loc) (ls : Array Slot), K47 points pointsPut takenOut bench_parts bench_tree_rows bench_tree_cells bench_tree_cells_n bench_starts bench_looses body_rows body_cells body_cells_n sum_numbers rowsOfPoints y1 y2 y3 = some z → va_P D vwCl (ws_X1_takeOut cI cJ cB a0 a_spans a_bound a_bench a_bench_tree a_bench_tree_cells a_bench_starts a_bench_looses a_body a_body_cells a_sum a_sum_numbers a_rowsOfPoints points pointsPut takenOut bench_parts bench_tree_rows bench_tree_cells bench_tree_cells_n bench_starts bench_looses body_rows body_cells body_cells_n sum_numbers rowsOfPoints) H → va_D (va_A ws0 sz) (ws_X1_takeOut cI cJ cB a0 a_spans a_bound a_bench a_bench_tree a_bench_tree_cells a_bench_starts a_bench_looses a_body a_body_cells a_sum a_sum_numbers a_rowsOfPoints points pointsPut takenOut bench_parts bench_tree_rows bench_tree_cells bench_tree_cells_n bench_starts bench_looses body_rows body_cells body_cells_n sum_numbers rowsOfPoints) → va_S (va_A ws0 sz) s.heap H locs → lv_has ls 4 [(0, .ref a0), (1, .int y1), (2, .int y2), (3, .int y3)] → W p l e rm_X1_takeOut s m args below meth c H locs 0 0 (MQ below (gQ D sz ws0 (ws_X1_takeOut cI cJ cB a0 a_spans a_bound a_bench a_bench_tree a_bench_tree_cells a_bench_starts a_bench_looses a_body a_body_cells a_sum a_sum_numbers a_rowsOfPoints z.2.1 z.2.2.1 z.2.2.2.1 z.2.2.2.2.1 z.2.2.2.2.2.1 z.2.2.2.2.2.2.1 bench_tree_cells_n z.2.2.2.2.2.2.2.1 z.2.2.2.2.2.2.2.2.1 z.2.2.2.2.2.2.2.2.2.1 z.2.2.2.2.2.2.2.2.2.2.1 body_cells_n z.2.2.2.2.2.2.2.2.2.2.2.1 z.2.2.2.2.2.2.2.2.2.2.2.2) (some (.int z.1))) args s 0 0 (va_A ws0 sz)) (F0 m 47 ls [])) : ∀ (points : Int32) (pointsPut : Int32) (takenOut : Int32) (bench_parts : Int32) (bench_tree_rows : Int32) (bench_tree_cells : Nat → Int32) (bench_starts : Nat → Int32) (bench_looses : Nat → Int32) (body_rows : Int32) (body_cells : Nat → Int32) (sum_numbers : Nat → Int64) (rowsOfPoints : Nat → Int32) (y1 : Int32) (y2 : Int32) (y3 : Int32) (H : Heap) (locs : List Loc) (ls : Array Slot), f_X1_takeOut_111 K47 N points pointsPut takenOut bench_parts bench_tree_rows bench_tree_cells bench_tree_cells_n bench_starts bench_looses body_rows body_cells body_cells_n sum_numbers rowsOfPoints y1 y2 y3 = some z → va_P D vwCl (ws_X1_takeOut cI cJ cB a0 a_spans a_bound a_bench a_bench_tree a_bench_tree_cells a_bench_starts a_bench_looses a_body a_body_cells a_sum a_sum_numbers a_rowsOfPoints points pointsPut takenOut bench_parts bench_tree_rows bench_tree_cells bench_tree_cells_n bench_starts bench_looses body_rows body_cells body_cells_n sum_numbers rowsOfPoints) H → va_D (va_A ws0 sz) (ws_X1_takeOut cI cJ cB a0 a_spans a_bound a_bench a_bench_tree a_bench_tree_cells a_bench_starts a_bench_looses a_body a_body_cells a_sum a_sum_numbers a_rowsOfPoints points pointsPut takenOut bench_parts bench_tree_rows bench_tree_cells bench_tree_cells_n bench_starts bench_looses body_rows body_cells body_cells_n sum_numbers rowsOfPoints) → va_S (va_A ws0 sz) s.heap H locs → lv_has ls 4 [(0, .ref a0), (1, .int y1), (2, .int y2), (3, .int y3)] → W p l e rm_X1_takeOut s m args below meth c H locs 0 0 (MQ below (gQ D sz ws0 (ws_X1_takeOut cI cJ cB a0 a_spans a_bound a_bench a_bench_tree a_bench_tree_cells a_bench_starts a_bench_looses a_body a_body_cells a_sum a_sum_numbers a_rowsOfPoints z.2.1 z.2.2.1 z.2.2.2.1 z.2.2.2.2.1 z.2.2.2.2.2.1 z.2.2.2.2.2.2.1 bench_tree_cells_n z.2.2.2.2.2.2.2.1 z.2.2.2.2.2.2.2.2.1 z.2.2.2.2.2.2.2.2.2.1 z.2.2.2.2.2.2.2.2.2.2.1 body_cells_n z.2.2.2.2.2.2.2.2.2.2.2.1 z.2.2.2.2.2.2.2.2.2.2.2.2) (some (.int z.1))) args s 0 0 (va_A ws0 sz)) (F0 m 111 ls []) := by
  obtain ⟨F, hr, hlk, hNw⟩ := id CX
  have hx := F.1
  have hb := F.2.1
  have hown := F.2.2.2.1
  have hA : ∀ q, s.heap.size ≤ q → va_A ws0 sz q := fun q hq => Or.inr (hsz ▸ hq)
  intro points pointsPut takenOut bench_parts bench_tree_rows bench_tree_cells bench_starts bench_looses body_rows body_cells sum_numbers rowsOfPoints y1 y2 y3 H locs ls h hP hD hS hl
  unfold f_X1_takeOut_111 at h
  refine lv_aload_n hx hb dX1_takeOut_111 rfl (lv_at hl 0 rfl) ?_
  refine r_get F hK hP 0 0 rfl inW_X1 wm_210 rfl (by decide) rfl dX1_takeOut_112 ?_
  obtain ⟨z115, hz115, h⟩ := o_b h
  refine k_v (wn := (ws_X1_takeOut cI cJ cB a0 a_spans a_bound a_bench a_bench_tree a_bench_tree_cells a_bench_starts a_bench_looses a_body a_body_cells a_sum a_sum_numbers a_rowsOfPoints points pointsPut takenOut bench_parts bench_tree_rows bench_tree_cells bench_tree_cells_n bench_starts bench_looses body_rows body_cells body_cells_n sum_numbers rowsOfPoints)) (As := []) (rest := []) F hNw hK hP hD hS hA (c_X0_lastNodes l D cI cJ cB a_bench a_bench_looses a_bench_tree a_bench_tree_cells a_bench_starts _ bench_parts bench_tree_rows bench_starts N hz115) wm_895 cv_X0_lastNodes [1, 2, 4] [0, 3, 5, 6, 7, 8, 9, 10] [0, 8, 9, 1, 10, 2, 3, 4, 5, 6, 7] (⟨rfl, rfl, rfl, by decide, rfl⟩ : Ix [1, 2, 4] [0, 3, 5, 6, 7, 8, 9, 10] [0, 8, 9, 1, 10, 2, 3, 4, 5, 6, 7] 11) rfl rfl rfl rfl rfl rfl ⟨rfl, rfl, by decide, by decide⟩ hl.1 rfl (Nat.le_of_ble_eq_true rfl) ⟨Nat.zero_le _, Nat.zero_le _⟩ dX1_takeOut_115 (fun H locs hP hD hS => ?_)
  refine lv_sipush (v := 400) hx hb dX1_takeOut_118 (by decide) ?_
  refine lv_icmp_le (tgt := 126) hx hb dX1_takeOut_121 (by decide) (fun c121 => ?_) (fun c121 => ?_)
  · have h := o_t c121 h
    refine lv_aload_n hx hb dX1_takeOut_126 rfl (lv_at hl 0 rfl) ?_
    refine r_get F hK hP 0 0 rfl inW_X1 wm_210 rfl (by decide) rfl dX1_takeOut_127 ?_
    obtain ⟨z130, hz130, h⟩ := o_b h
    refine k_v (wn := (ws_X1_takeOut cI cJ cB a0 a_spans a_bound a_bench a_bench_tree a_bench_tree_cells a_bench_starts a_bench_looses a_body a_body_cells a_sum a_sum_numbers a_rowsOfPoints points pointsPut takenOut bench_parts bench_tree_rows bench_tree_cells bench_tree_cells_n bench_starts bench_looses body_rows body_cells body_cells_n sum_numbers rowsOfPoints)) (As := []) (rest := []) F hNw hK hP hD hS hA (c_X0_lastKind l D cI cJ cB a_bench a_bench_starts a_bench_looses a_bench_tree a_bench_tree_cells _ bench_parts bench_tree_rows bench_tree_cells bench_tree_cells_n N hz130) wm_899 cv_X0_lastKind [1, 2, 3] [0, 4, 5, 6, 7, 8, 9, 10] [0, 8, 9, 10, 1, 2, 3, 4, 5, 6, 7] (⟨rfl, rfl, rfl, by decide, rfl⟩ : Ix [1, 2, 3] [0, 4, 5, 6, 7, 8, 9, 10] [0, 8, 9, 10, 1, 2, 3, 4, 5, 6, 7] 11) rfl rfl rfl rfl rfl rfl ⟨rfl, rfl, by decide, by decide⟩ hl.1 rfl (Nat.le_of_ble_eq_true rfl) ⟨Nat.zero_le _, Nat.zero_le _⟩ dX1_takeOut_130 (fun H locs hP hD hS => ?_)
    refine lv_if_ne (tgt := 139) hx hb dX1_takeOut_133 (by decide) (fun c133 => ?_) (fun c133 => ?_)
    · have h := o_f c133 h
      refine lv_iinc (v := y3 + 1) (lv' := [(3, .int (y3 + 1)), (0, .ref a0), (1, .int y1), (2, .int y2)]) hx hb dX1_takeOut_139 hl (k := 3) rfl rfl (by decide) rfl (fun ls hl => ?_)
      refine lv_goto (tgt := 47) hx hb dX1_takeOut_142 (by decide) ?_
      exact hK47 points pointsPut takenOut bench_parts bench_tree_rows bench_tree_cells bench_starts bench_looses body_rows body_cells sum_numbers rowsOfPoints y1 y2 (y3 + 1) _ _ _ h hP hD hS (lv_sub hl [1, 2, 3, 0] rfl)
    · have h := o_t c133 h
      refine lv_goto (tgt := 145) hx hb dX1_takeOut_136 (by decide) ?_
      exact w_X1_takeOut_145 CX hK hsz points pointsPut takenOut bench_parts bench_tree_rows bench_tree_cells bench_starts bench_looses body_rows body_cells sum_numbers rowsOfPoints y1 _ _ _ h hP hD hS (lv_sub hl [0, 1] rfl)
  · have h := o_f c121 h
    refine lv_iconst (v := 0) hx hb dX1_takeOut_124 (by decide) ?_
    obtain rfl := Option.some.inj h
    exact r_ret (v := 0) F hr hlk rfl dX1_takeOut_125 hsz hP hD hS
set_option maxHeartbeats 4000000 in
set_option maxRecDepth 100000 in
theorem w_X1_takeOut_47 (CX : Cx p m c cX1_takeOut 4 s args x0 RX1 meth (some .boolean)) (hK : va_K D vwCl (ty0 cI cJ cB) s) (hsz : s.heap.size = sz) : ∀ (n : Nat), ∀ (points : Int32) (pointsPut : Int32) (takenOut : Int32) (bench_parts : Int32) (bench_tree_rows : Int32) (bench_tree_cells : Nat → Int32) (bench_starts : Nat → Int32) (bench_looses : Nat → Int32) (body_rows : Int32) (body_cells : Nat → Int32) (sum_numbers : Nat → Int64) (rowsOfPoints : Nat → Int32) (y1 : Int32) (y2 : Int32) (y3 : Int32) (H : Heap) (locs : List Loc) (ls : Array Slot), f_X1_takeOut_47 N n points pointsPut takenOut bench_parts bench_tree_rows bench_tree_cells bench_tree_cells_n bench_starts bench_looses body_rows body_cells body_cells_n sum_numbers rowsOfPoints y1 y2 y3 = some z → va_P D vwCl (ws_X1_takeOut cI cJ cB a0 a_spans a_bound a_bench a_bench_tree a_bench_tree_cells a_bench_starts a_bench_looses a_body a_body_cells a_sum a_sum_numbers a_rowsOfPoints points pointsPut takenOut bench_parts bench_tree_rows bench_tree_cells bench_tree_cells_n bench_starts bench_looses body_rows body_cells body_cells_n sum_numbers rowsOfPoints) H → va_D (va_A ws0 sz) (ws_X1_takeOut cI cJ cB a0 a_spans a_bound a_bench a_bench_tree a_bench_tree_cells a_bench_starts a_bench_looses a_body a_body_cells a_sum a_sum_numbers a_rowsOfPoints points pointsPut takenOut bench_parts bench_tree_rows bench_tree_cells bench_tree_cells_n bench_starts bench_looses body_rows body_cells body_cells_n sum_numbers rowsOfPoints) → va_S (va_A ws0 sz) s.heap H locs → lv_has ls 4 [(0, .ref a0), (1, .int y1), (2, .int y2), (3, .int y3)] → W p l e rm_X1_takeOut s m args below meth c H locs 0 0 (MQ below (gQ D sz ws0 (ws_X1_takeOut cI cJ cB a0 a_spans a_bound a_bench a_bench_tree a_bench_tree_cells a_bench_starts a_bench_looses a_body a_body_cells a_sum a_sum_numbers a_rowsOfPoints z.2.1 z.2.2.1 z.2.2.2.1 z.2.2.2.2.1 z.2.2.2.2.2.1 z.2.2.2.2.2.2.1 bench_tree_cells_n z.2.2.2.2.2.2.2.1 z.2.2.2.2.2.2.2.2.1 z.2.2.2.2.2.2.2.2.2.1 z.2.2.2.2.2.2.2.2.2.2.1 body_cells_n z.2.2.2.2.2.2.2.2.2.2.2.1 z.2.2.2.2.2.2.2.2.2.2.2.2) (some (.int z.1))) args s 0 0 (va_A ws0 sz)) (F0 m 47 ls []) := by
  obtain ⟨F, hr, hlk, hNw⟩ := id CX
  have hx := F.1
  have hb := F.2.1
  have hown := F.2.2.2.1
  have hA : ∀ q, s.heap.size ≤ q → va_A ws0 sz q := fun q hq => Or.inr (hsz ▸ hq)
  intro n
  induction n with
  | zero =>
    intro points pointsPut takenOut bench_parts bench_tree_rows bench_tree_cells bench_starts bench_looses body_rows body_cells sum_numbers rowsOfPoints y1 y2 y3 H locs ls h
    cases h
  | succ n ih =>
    intro points pointsPut takenOut bench_parts bench_tree_rows bench_tree_cells bench_starts bench_looses body_rows body_cells sum_numbers rowsOfPoints y1 y2 y3 H locs ls h hP hD hS hl
    unfold f_X1_takeOut_47 at h
    refine lv_iload_n hx hb dX1_takeOut_47 rfl (lv_at hl 3 rfl) ?_
    refine lv_aload_n hx hb dX1_takeOut_48 rfl (lv_at hl 0 rfl) ?_
    refine r_get F hK hP 0 6 rfl inW_X1 wm_217 rfl (by decide) rfl dX1_takeOut_49 ?_
    refine lv_icmp_ge (tgt := 145) hx hb dX1_takeOut_52 (by decide) (fun c52 => ?_) (fun c52 => ?_)
    · have h := o_t c52 h
      exact w_X1_takeOut_145 CX hK hsz points pointsPut takenOut bench_parts bench_tree_rows bench_tree_cells bench_starts bench_looses body_rows body_cells sum_numbers rowsOfPoints y1 _ _ _ h hP hD hS (lv_sub hl [0, 1] rfl)
    · have h := o_f c52 h
      refine lv_aload_n hx hb dX1_takeOut_55 rfl (lv_at hl 0 rfl) ?_
      refine lv_dup hx hb dX1_takeOut_56 rfl ?_
      refine r_get F hK hP 0 7 rfl inW_X1 wm_218 rfl (by decide) rfl dX1_takeOut_57 ?_
      refine lv_iconst (v := 1) hx hb dX1_takeOut_60 (by decide) ?_
      refine lv_iadd hx hb dX1_takeOut_61 ?_
      refine r_put (wn := (ws_X1_takeOut cI cJ cB a0 a_spans a_bound a_bench a_bench_tree a_bench_tree_cells a_bench_starts a_bench_looses a_body a_body_cells a_sum a_sum_numbers a_rowsOfPoints points (pointsPut + 1) takenOut bench_parts bench_tree_rows bench_tree_cells bench_tree_cells_n bench_starts bench_looses body_rows body_cells body_cells_n sum_numbers rowsOfPoints)) F hK hP hD hS 0 7 rfl inW_X1 wm_218 tyX1_ok nmX1 rfl rfl (by decide) rfl rfl (Nat.le_of_ble_eq_true rfl) rfl dX1_takeOut_62 (fun H locs hP hD hS => ?_)
      refine lv_aload_n hx hb dX1_takeOut_65 rfl (lv_at hl 0 rfl) ?_
      refine r_get F hK hP 0 0 rfl inW_X1 wm_210 rfl (by decide) rfl dX1_takeOut_66 ?_
      refine r_getN F hNw hK hP 1 0 rfl inW_X0 nf_X1_61 rfl (by decide) rfl dX1_takeOut_69 ?_
      refine lv_aload_n hx hb dX1_takeOut_72 rfl (lv_at hl 0 rfl) ?_
      refine r_get F hK hP 0 1 rfl inW_X1 wm_212 rfl (by decide) rfl dX1_takeOut_73 ?_
      refine r_getN F hNw hK hP 6 1 rfl inW_X5 nf_X1_54 rfl (by decide) rfl dX1_takeOut_76 ?_
      refine lv_iconst (v := 1) hx hb dX1_takeOut_79 (by decide) ?_
      refine lv_iadd hx hb dX1_takeOut_80 ?_
      obtain ⟨z81, hz81, h⟩ := o_b h
      refine k_v (wn := (ws_X1_takeOut cI cJ cB a0 a_spans a_bound a_bench a_bench_tree a_bench_tree_cells a_bench_starts a_bench_looses a_body a_body_cells a_sum a_sum_numbers a_rowsOfPoints points (pointsPut + 1) takenOut bench_parts bench_tree_rows bench_tree_cells bench_tree_cells_n bench_starts bench_looses body_rows body_cells body_cells_n sum_numbers rowsOfPoints)) (As := [.int (body_rows + 1)]) (rest := []) F hNw hK hP hD hS hA (c_X5_reserve l D cI cJ cB a_bench_tree a_bench_tree_cells _ bench_tree_rows bench_tree_cells bench_tree_cells_n (body_rows + 1) N hz81) wm_833 cv_X5_reserve [2, 3] [0, 1, 4, 5, 6, 7, 8, 9, 10] [0, 1, 9, 10, 2, 3, 4, 5, 6, 7, 8] (⟨rfl, rfl, rfl, by decide, rfl⟩ : Ix [2, 3] [0, 1, 4, 5, 6, 7, 8, 9, 10] [0, 1, 9, 10, 2, 3, 4, 5, 6, 7, 8] 11) rfl rfl rfl rfl rfl rfl ⟨rfl, rfl, by decide, by decide⟩ hl.1 rfl (Nat.le_of_ble_eq_true rfl) ⟨Nat.zero_le _, Nat.zero_le _⟩ dX1_takeOut_81 (fun H locs hP hD hS => ?_)
      refine lv_if_eq (tgt := 96) hx hb dX1_takeOut_84 (by decide) (fun c84 => ?_) (fun c84 => ?_)
      · have h := o_t c84 h
        exact w_X1_takeOut_96 CX hK hsz points (pointsPut + 1) takenOut bench_parts bench_tree_rows bench_tree_cells bench_starts bench_looses body_rows body_cells sum_numbers rowsOfPoints _ _ _ h hP hD hS (lv_sub hl [] rfl)
      · have h := o_f c84 h
        refine lv_aload_n hx hb dX1_takeOut_87 rfl (lv_at hl 0 rfl) ?_
        refine lv_iload_n hx hb dX1_takeOut_88 rfl (lv_at hl 2 rfl) ?_
        refine lv_iload_n hx hb dX1_takeOut_89 rfl (lv_at hl 3 rfl) ?_
        obtain ⟨z90, hz90, h⟩ := o_b h
        refine k_v (wn := (ws_X1_takeOut cI cJ cB a0 a_spans a_bound a_bench a_bench_tree a_bench_tree_cells a_bench_starts a_bench_looses a_body a_body_cells a_sum a_sum_numbers a_rowsOfPoints points (pointsPut + 1) takenOut z90.2.1 z90.2.2.1 z90.2.2.2.1 bench_tree_cells_n z90.2.2.2.2.1 z90.2.2.2.2.2.1 body_rows body_cells body_cells_n z90.2.2.2.2.2.2 rowsOfPoints)) (As := [.int y2, .int y3]) (rest := []) F hNw hK hP hD hS hA (c_X1_putIn l D cI cJ cB a0 a_spans a_bound a_bench a_bench_tree a_bench_tree_cells a_bench_starts a_bench_looses a_body a_body_cells a_sum a_sum_numbers a_rowsOfPoints _ points (pointsPut + 1) takenOut bench_parts bench_tree_rows bench_tree_cells bench_tree_cells_n bench_starts bench_looses body_rows body_cells body_cells_n sum_numbers rowsOfPoints y2 y3 N hz90) wm_882 cv_X1_putIn [0, 1, 2, 3, 4, 5, 6, 7, 8, 9, 10] [] [0, 1, 2, 3, 4, 5, 6, 7, 8, 9, 10] (⟨rfl, rfl, rfl, by decide, rfl⟩ : Ix [0, 1, 2, 3, 4, 5, 6, 7, 8, 9, 10] [] [0, 1, 2, 3, 4, 5, 6, 7, 8, 9, 10] 11) rfl rfl rfl rfl rfl rfl ⟨rfl, rfl, by decide, by decide⟩ hl.1 rfl (Nat.le_of_ble_eq_true rfl) ⟨Nat.zero_le _, Nat.zero_le _⟩ dX1_takeOut_90 (fun H locs hP hD hS => ?_)
        refine lv_if_ne (tgt := 98) hx hb dX1_takeOut_93 (by decide) (fun c93 => ?_) (fun c93 => ?_)
        · have h := o_f c93 h
          refine lv_iload_n hx hb dX1_takeOut_98 rfl (lv_at hl 3 rfl) ?_
          refine lv_if_eq (tgt := 111) hx hb dX1_takeOut_99 (by decide) (fun c99 => ?_) (fun c99 => ?_)
          · have h := o_t c99 h
            exact w_X1_takeOut_111 CX hK hsz (hK47 := ih) points (pointsPut + 1) takenOut z90.2.1 z90.2.2.1 z90.2.2.2.1 z90.2.2.2.2.1 z90.2.2.2.2.2.1 body_rows body_cells z90.2.2.2.2.2.2 rowsOfPoints y1 y2 y3 _ _ _ h hP hD hS (lv_sub hl [0, 1, 2, 3] rfl)
          · have h := o_f c99 h
            refine lv_aload_n hx hb dX1_takeOut_102 rfl (lv_at hl 0 rfl) ?_
            refine r_get F hK hP 0 0 rfl inW_X1 wm_210 rfl (by decide) rfl dX1_takeOut_103 ?_
            refine lv_bipush (v := 7) hx hb dX1_takeOut_106 (by decide) ?_
            obtain ⟨z108, hz108, h⟩ := o_b h
            refine k_v (wn := (ws_X1_takeOut cI cJ cB a0 a_spans a_bound a_bench a_bench_tree a_bench_tree_cells a_bench_starts a_bench_looses a_body a_body_cells a_sum a_sum_numbers a_rowsOfPoints points (pointsPut + 1) takenOut z108.1 z108.2.1 z108.2.2.1 bench_tree_cells_n z90.2.2.2.2.1 z108.2.2.2 body_rows body_cells body_cells_n z90.2.2.2.2.2.2 rowsOfPoints)) (As := [.int 7]) (rest := []) F hNw hK hP hD hS hA (c_X0_join l D cI cJ cB a_bench a_bench_tree a_bench_tree_cells a_bench_starts a_bench_looses _ z90.2.1 z90.2.2.1 z90.2.2.2.1 bench_tree_cells_n z90.2.2.2.2.1 z90.2.2.2.2.2.1 7 N hz108) wm_854 cv_X0_join [1, 2, 3, 4, 5] [0, 6, 7, 8, 9, 10] [0, 6, 7, 8, 9, 10, 1, 2, 3, 4, 5] (⟨rfl, rfl, rfl, by decide, rfl⟩ : Ix [1, 2, 3, 4, 5] [0, 6, 7, 8, 9, 10] [0, 6, 7, 8, 9, 10, 1, 2, 3, 4, 5] 11) rfl rfl rfl rfl rfl rfl ⟨rfl, rfl, by decide, by decide⟩ hl.1 rfl (Nat.le_of_ble_eq_true rfl) ⟨Nat.zero_le _, Nat.zero_le _⟩ dX1_takeOut_108 (fun H locs hP hD hS => ?_)
            exact w_X1_takeOut_111 CX hK hsz (hK47 := ih) points (pointsPut + 1) takenOut z108.1 z108.2.1 z108.2.2.1 z90.2.2.2.2.1 z108.2.2.2 body_rows body_cells z90.2.2.2.2.2.2 rowsOfPoints y1 y2 y3 _ _ _ h hP hD hS (lv_sub hl [0, 1, 2, 3] rfl)
        · have h := o_t c93 h
          exact w_X1_takeOut_96 CX hK hsz points (pointsPut + 1) takenOut z90.2.1 z90.2.2.1 z90.2.2.2.1 z90.2.2.2.2.1 z90.2.2.2.2.2.1 body_rows body_cells z90.2.2.2.2.2.2 rowsOfPoints _ _ _ h hP hD hS (lv_sub hl [] rfl)
set_option maxHeartbeats 4000000 in
set_option maxRecDepth 100000 in
theorem w_X1_takeOut_29 (CX : Cx p m c cX1_takeOut 4 s args x0 RX1 meth (some .boolean)) (hK : va_K D vwCl (ty0 cI cJ cB) s) (hsz : s.heap.size = sz) : ∀ (points : Int32) (pointsPut : Int32) (takenOut : Int32) (bench_parts : Int32) (bench_tree_rows : Int32) (bench_tree_cells : Nat → Int32) (bench_starts : Nat → Int32) (bench_looses : Nat → Int32) (body_rows : Int32) (body_cells : Nat → Int32) (sum_numbers : Nat → Int64) (rowsOfPoints : Nat → Int32) (y1 : Int32) (y2 : Int32) (H : Heap) (locs : List Loc) (ls : Array Slot), f_X1_takeOut_29 N points pointsPut takenOut bench_parts bench_tree_rows bench_tree_cells bench_tree_cells_n bench_starts bench_looses body_rows body_cells body_cells_n sum_numbers rowsOfPoints y1 y2 = some z → va_P D vwCl (ws_X1_takeOut cI cJ cB a0 a_spans a_bound a_bench a_bench_tree a_bench_tree_cells a_bench_starts a_bench_looses a_body a_body_cells a_sum a_sum_numbers a_rowsOfPoints points pointsPut takenOut bench_parts bench_tree_rows bench_tree_cells bench_tree_cells_n bench_starts bench_looses body_rows body_cells body_cells_n sum_numbers rowsOfPoints) H → va_D (va_A ws0 sz) (ws_X1_takeOut cI cJ cB a0 a_spans a_bound a_bench a_bench_tree a_bench_tree_cells a_bench_starts a_bench_looses a_body a_body_cells a_sum a_sum_numbers a_rowsOfPoints points pointsPut takenOut bench_parts bench_tree_rows bench_tree_cells bench_tree_cells_n bench_starts bench_looses body_rows body_cells body_cells_n sum_numbers rowsOfPoints) → va_S (va_A ws0 sz) s.heap H locs → lv_has ls 4 [(0, .ref a0), (1, .int y1), (2, .int y2)] → W p l e rm_X1_takeOut s m args below meth c H locs 0 0 (MQ below (gQ D sz ws0 (ws_X1_takeOut cI cJ cB a0 a_spans a_bound a_bench a_bench_tree a_bench_tree_cells a_bench_starts a_bench_looses a_body a_body_cells a_sum a_sum_numbers a_rowsOfPoints z.2.1 z.2.2.1 z.2.2.2.1 z.2.2.2.2.1 z.2.2.2.2.2.1 z.2.2.2.2.2.2.1 bench_tree_cells_n z.2.2.2.2.2.2.2.1 z.2.2.2.2.2.2.2.2.1 z.2.2.2.2.2.2.2.2.2.1 z.2.2.2.2.2.2.2.2.2.2.1 body_cells_n z.2.2.2.2.2.2.2.2.2.2.2.1 z.2.2.2.2.2.2.2.2.2.2.2.2) (some (.int z.1))) args s 0 0 (va_A ws0 sz)) (F0 m 29 ls []) := by
  obtain ⟨F, hr, hlk, hNw⟩ := id CX
  have hx := F.1
  have hb := F.2.1
  have hown := F.2.2.2.1
  have hA : ∀ q, s.heap.size ≤ q → va_A ws0 sz q := fun q hq => Or.inr (hsz ▸ hq)
  intro points pointsPut takenOut bench_parts bench_tree_rows bench_tree_cells bench_starts bench_looses body_rows body_cells sum_numbers rowsOfPoints y1 y2 H locs ls h hP hD hS hl
  unfold f_X1_takeOut_29 at h
  refine lv_aload_n hx hb dX1_takeOut_29 rfl (lv_at hl 0 rfl) ?_
  refine r_get F hK hP 0 0 rfl inW_X1 wm_210 rfl (by decide) rfl dX1_takeOut_30 ?_
  refine lv_aload_n hx hb dX1_takeOut_33 rfl (lv_at hl 0 rfl) ?_
  refine r_get F hK hP 0 1 rfl inW_X1 wm_212 rfl (by decide) rfl dX1_takeOut_34 ?_
  obtain ⟨z37, hz37, h⟩ := o_b h
  refine k_v (wn := (ws_X1_takeOut cI cJ cB a0 a_spans a_bound a_bench a_bench_tree a_bench_tree_cells a_bench_starts a_bench_looses a_body a_body_cells a_sum a_sum_numbers a_rowsOfPoints points pointsPut takenOut z37.1 z37.2.1 bench_tree_cells bench_tree_cells_n bench_starts bench_looses z37.2.2.1 z37.2.2.2 body_cells_n sum_numbers rowsOfPoints)) (As := [.ref a_body]) (rest := []) F hNw hK hP hD hS hA (c_X0_moveLast l D cI cJ cB a_bench a_bench_looses a_bench_tree a_bench_tree_cells a_bench_starts a_body a_body_cells _ bench_parts bench_tree_rows bench_tree_cells bench_tree_cells_n bench_starts body_rows body_cells body_cells_n N hz37) wm_862 cv_X0_moveLast [1, 2, 3, 4, 6, 7] [0, 5, 8, 9, 10] [0, 5, 6, 7, 8, 1, 9, 10, 2, 3, 4] (⟨rfl, rfl, rfl, by decide, rfl⟩ : Ix [1, 2, 3, 4, 6, 7] [0, 5, 8, 9, 10] [0, 5, 6, 7, 8, 1, 9, 10, 2, 3, 4] 11) rfl rfl rfl rfl rfl rfl ⟨rfl, rfl, by decide, by decide⟩ hl.1 rfl (Nat.le_of_ble_eq_true rfl) ⟨Nat.zero_le _, Nat.zero_le _⟩ dX1_takeOut_37 (fun H locs hP hD hS => ?_)
  refine lv_aload_n hx hb dX1_takeOut_40 rfl (lv_at hl 0 rfl) ?_
  refine lv_iload_n hx hb dX1_takeOut_41 rfl (lv_at hl 2 rfl) ?_
  obtain ⟨z42, hz42, h⟩ := o_b h
  refine k_v (wn := (ws_X1_takeOut cI cJ cB a0 a_spans a_bound a_bench a_bench_tree a_bench_tree_cells a_bench_starts a_bench_looses a_body a_body_cells a_sum a_sum_numbers a_rowsOfPoints z42.1 pointsPut takenOut z37.1 z37.2.1 bench_tree_cells bench_tree_cells_n bench_starts bench_looses z37.2.2.1 z37.2.2.2 body_cells_n sum_numbers z42.2)) (As := [.int y2]) (rest := []) F hNw hK hP hD hS hA (c_X1_collectPoints l D cI cJ cB a0 a_bench a_sum a_spans a_bound a_body a_body_cells a_rowsOfPoints _ points pointsPut takenOut z37.2.2.1 z37.2.2.2 body_cells_n rowsOfPoints y2 N hz42) wm_867 cv_X1_collectPoints [0, 6, 7, 10] [1, 2, 3, 4, 5, 8, 9] [7, 0, 1, 2, 3, 4, 8, 9, 5, 6, 10] (⟨rfl, rfl, rfl, by decide, rfl⟩ : Ix [0, 6, 7, 10] [1, 2, 3, 4, 5, 8, 9] [7, 0, 1, 2, 3, 4, 8, 9, 5, 6, 10] 11) rfl rfl rfl rfl rfl rfl ⟨rfl, rfl, by decide, by decide⟩ hl.1 rfl (Nat.le_of_ble_eq_true rfl) ⟨Nat.zero_le _, Nat.zero_le _⟩ dX1_takeOut_42 (fun H locs hP hD hS => ?_)
  refine lv_iconst (v := 0) hx hb dX1_takeOut_45 (by decide) ?_
  refine lv_istore_n (lv' := [(3, .int 0), (0, .ref a0), (1, .int y1), (2, .int y2)]) hx hb dX1_takeOut_46 rfl hl (by decide) rfl (fun ls hl => ?_)
  exact w_X1_takeOut_47 CX hK hsz N z42.1 pointsPut takenOut z37.1 z37.2.1 bench_tree_cells bench_starts bench_looses z37.2.2.1 z37.2.2.2 sum_numbers z42.2 y1 y2 0 _ _ _ h hP hD hS (lv_sub hl [1, 2, 3, 0] rfl)
end G_X1_takeOut
set_option maxHeartbeats 4000000 in
set_option maxRecDepth 100000 in
theorem c_X1_takeOut (l : Launch) (D : va_G) (cI cJ cB : ClassId) (a0 a_spans a_bound a_bench a_bench_tree a_bench_tree_cells a_bench_starts a_bench_looses a_body a_body_cells a_sum a_sum_numbers a_rowsOfPoints : Nat) (sz : Nat) (points : Int32) (pointsPut : Int32) (takenOut : Int32) (bench_parts : Int32) (bench_tree_rows : Int32) (bench_tree_cells : Nat → Int32) (bench_tree_cells_n : Nat) (bench_starts : Nat → Int32) (bench_looses : Nat → Int32) (body_rows : Int32) (body_cells : Nat → Int32) (body_cells_n : Nat) (sum_numbers : Nat → Int64) (rowsOfPoints : Nat → Int32) (x1 : Int32) (x2 : Int32) (N : Nat) {z : Int32 × (Int32) × (Int32) × (Int32) × (Int32) × (Int32) × (Nat → Int32) × (Nat → Int32) × (Nat → Int32) × (Int32) × (Nat → Int32) × (Nat → Int64) × (Nat → Int32)} (h : f_X1_takeOut N points pointsPut takenOut bench_parts bench_tree_rows bench_tree_cells bench_tree_cells_n bench_starts bench_looses body_rows body_cells body_cells_n sum_numbers rowsOfPoints x1 x2 = some z) : Mg l yX1_takeOut cX1_takeOut 4 (some .boolean) rm_X1_takeOut D (ty0 cI cJ cB) [.ref a0, .int x1, .int x2] sz (ws_X1_takeOut cI cJ cB a0 a_spans a_bound a_bench a_bench_tree a_bench_tree_cells a_bench_starts a_bench_looses a_body a_body_cells a_sum a_sum_numbers a_rowsOfPoints points pointsPut takenOut bench_parts bench_tree_rows bench_tree_cells bench_tree_cells_n bench_starts bench_looses body_rows body_cells body_cells_n sum_numbers rowsOfPoints) (some (.int z.1)) (ws_X1_takeOut cI cJ cB a0 a_spans a_bound a_bench a_bench_tree a_bench_tree_cells a_bench_starts a_bench_looses a_body a_body_cells a_sum a_sum_numbers a_rowsOfPoints z.2.1 z.2.2.1 z.2.2.2.1 z.2.2.2.2.1 z.2.2.2.2.2.1 z.2.2.2.2.2.2.1 bench_tree_cells_n z.2.2.2.2.2.2.2.1 z.2.2.2.2.2.2.2.2.1 z.2.2.2.2.2.2.2.2.2.1 z.2.2.2.2.2.2.2.2.2.2.1 body_cells_n z.2.2.2.2.2.2.2.2.2.2.2.1 z.2.2.2.2.2.2.2.2.2.2.2.2) := by
  refine Mg.of (by decide) (Nat.le_of_ble_eq_true rfl) ?_
  intro p e s m below meth c CX hK hsz hP hD ls hl
  have CX : Cx p m c cX1_takeOut 4 s ([.ref a0, .int x1, .int x2] : List Value).toArray (Cond.code yX1_takeOut cX1_takeOut 4 (some .boolean)) RX1 meth (some .boolean) := CX
  obtain ⟨F, hr, hlk, hNw⟩ := id CX
  have hx := F.1
  have hb := F.2.1
  have hown := F.2.2.2.1
  have hl : lv_has ls 4 [(0, .ref a0), (1, .int x1), (2, .int x2)] := hl
  have hS : va_S (va_A (ws_X1_takeOut cI cJ cB a0 a_spans a_bound a_bench a_bench_tree a_bench_tree_cells a_bench_starts a_bench_looses a_body a_body_cells a_sum a_sum_numbers a_rowsOfPoints points pointsPut takenOut bench_parts bench_tree_rows bench_tree_cells bench_tree_cells_n bench_starts bench_looses body_rows body_cells body_cells_n sum_numbers rowsOfPoints) sz) s.heap s.heap [] := va_S.rf
  have hA : ∀ q, s.heap.size ≤ q → va_A (ws_X1_takeOut cI cJ cB a0 a_spans a_bound a_bench a_bench_tree a_bench_tree_cells a_bench_starts a_bench_looses a_body a_body_cells a_sum a_sum_numbers a_rowsOfPoints points pointsPut takenOut bench_parts bench_tree_rows bench_tree_cells bench_tree_cells_n bench_starts bench_looses body_rows body_cells body_cells_n sum_numbers rowsOfPoints) sz q := fun q hq => Or.inr (hsz ▸ hq)
  unfold f_X1_takeOut at h
  refine lv_aload_n hx hb dX1_takeOut_0 rfl (lv_at hl 0 rfl) ?_
  refine r_get F hK hP 0 0 rfl inW_X1 wm_210 rfl (by decide) rfl dX1_takeOut_1 ?_
  obtain ⟨z4, hz4, h⟩ := o_b h
  refine k_v (wn := (ws_X1_takeOut cI cJ cB a0 a_spans a_bound a_bench a_bench_tree a_bench_tree_cells a_bench_starts a_bench_looses a_body a_body_cells a_sum a_sum_numbers a_rowsOfPoints points pointsPut takenOut bench_parts bench_tree_rows bench_tree_cells bench_tree_cells_n bench_starts bench_looses body_rows body_cells body_cells_n sum_numbers rowsOfPoints)) (As := []) (rest := []) F hNw hK hP hD hS hA (c_X0_lastLoose l D cI cJ cB a_bench a_bench_tree a_bench_starts a_bench_looses _ bench_parts bench_looses N hz4) wm_860 cv_X0_lastLoose [1, 5] [0, 2, 3, 4, 6, 7, 8, 9, 10] [0, 9, 1, 2, 3, 10, 4, 5, 6, 7, 8] (⟨rfl, rfl, rfl, by decide, rfl⟩ : Ix [1, 5] [0, 2, 3, 4, 6, 7, 8, 9, 10] [0, 9, 1, 2, 3, 10, 4, 5, 6, 7, 8] 11) rfl rfl rfl rfl rfl rfl ⟨rfl, rfl, by decide, by decide⟩ hl.1 rfl (Nat.le_of_ble_eq_true rfl) ⟨Nat.zero_le _, Nat.zero_le _⟩ dX1_takeOut_4 (fun H locs hP hD hS => ?_)
  refine lv_iload_n hx hb dX1_takeOut_7 rfl (lv_at hl 2 rfl) ?_
  refine lv_ishr hx hb dX1_takeOut_8 ?_
  refine lv_iconst (v := 1) hx hb dX1_takeOut_9 (by decide) ?_
  refine lv_iand hx hb dX1_takeOut_10 ?_
  refine lv_if_ne (tgt := 16) hx hb dX1_takeOut_11 (by decide) (fun c11 => ?_) (fun c11 => ?_)
  · have h := o_f c11 h
    refine lv_iload_n hx hb dX1_takeOut_16 rfl (lv_at hl 1 rfl) ?_
    refine lv_bipush (v := 9) hx hb dX1_takeOut_17 (by decide) ?_
    refine lv_icmp_ne (tgt := 29) hx hb dX1_takeOut_19 (by decide) (fun c19 => ?_) (fun c19 => ?_)
    · have h := o_f c19 h
      exact w_X1_takeOut_29 CX hK hsz points pointsPut takenOut bench_parts bench_tree_rows bench_tree_cells bench_starts bench_looses body_rows body_cells sum_numbers rowsOfPoints x1 x2 _ _ _ h hP hD hS (lv_sub hl [0, 1, 2] rfl)
    · have h := o_t c19 h
      refine lv_aload_n hx hb dX1_takeOut_22 rfl (lv_at hl 0 rfl) ?_
      refine r_get F hK hP 0 0 rfl inW_X1 wm_210 rfl (by decide) rfl dX1_takeOut_23 ?_
      obtain ⟨z26, hz26, h⟩ := o_b h
      refine k_v (wn := (ws_X1_takeOut cI cJ cB a0 a_spans a_bound a_bench a_bench_tree a_bench_tree_cells a_bench_starts a_bench_looses a_body a_body_cells a_sum a_sum_numbers a_rowsOfPoints points pointsPut takenOut bench_parts bench_tree_rows z26 bench_tree_cells_n bench_starts bench_looses body_rows body_cells body_cells_n sum_numbers rowsOfPoints)) (As := []) (rest := []) F hNw hK hP hD hS hA (c_X0_negateLast l D cI cJ cB a_bench a_bench_looses a_bench_tree a_bench_tree_cells a_bench_starts _ bench_parts bench_tree_rows bench_tree_cells bench_tree_cells_n bench_starts N hz26) wm_861 cv_X0_negateLast [1, 2, 3, 4] [0, 5, 6, 7, 8, 9, 10] [0, 7, 8, 9, 10, 1, 2, 3, 4, 5, 6] (⟨rfl, rfl, rfl, by decide, rfl⟩ : Ix [1, 2, 3, 4] [0, 5, 6, 7, 8, 9, 10] [0, 7, 8, 9, 10, 1, 2, 3, 4, 5, 6] 11) rfl rfl rfl rfl rfl rfl ⟨rfl, rfl, by decide, by decide⟩ hl.1 rfl (Nat.le_of_ble_eq_true rfl) ⟨Nat.zero_le _, Nat.zero_le _⟩ dX1_takeOut_26 (fun H locs hP hD hS => ?_)
      exact w_X1_takeOut_29 CX hK hsz points pointsPut takenOut bench_parts bench_tree_rows z26 bench_starts bench_looses body_rows body_cells sum_numbers rowsOfPoints x1 x2 _ _ _ h hP hD hS (lv_sub hl [0, 1, 2] rfl)
  · have h := o_t c11 h
    refine lv_iconst (v := 1) hx hb dX1_takeOut_14 (by decide) ?_
    obtain rfl := Option.some.inj h
    exact r_ret (v := 1) F hr hlk rfl dX1_takeOut_15 hsz hP hD hS
section G_X1_run
abbrev ws_X1_run (cI cJ cB : ClassId) (a0 a_spans a_bound a_bench a_bench_tree a_bench_tree_cells a_bench_starts a_bench_looses a_body a_body_cells a_sum a_sum_numbers a_rowsOfPoints a_p1 a_p1_cells : Nat) (points : Int32) (pointsPut : Int32) (takenOut : Int32) (bench_parts : Int32) (bench_tree_rows : Int32) (bench_tree_cells : Nat → Int32) (bench_tree_cells_n : Nat) (bench_starts : Nat → Int32) (bench_looses : Nat → Int32) (body_rows : Int32) (body_cells : Nat → Int32) (body_cells_n : Nat) (sum_numbers : Nat → Int64) (rowsOfPoints : Nat → Int32) (p1_rows : Int32) (p1_cells : Nat → Int32) (p1_cells_n : Nat) : va_W := [(a0, .inr (3, [.ref a_bench, .ref a_body, .ref a_sum, .ref a_rowsOfPoints, .ref a_spans, .ref a_bound, .int points, .int pointsPut, .int takenOut])), (a_bench, .inr (2, [.ref a_bench_tree, .ref a_bench_starts, .ref a_bench_looses, .int bench_parts])), (a_bench_tree, .inr (7, [.ref a_bench_tree_cells, .int bench_tree_rows])), (a_bench_tree_cells, .inl (cI, bench_tree_cells_n, .inl bench_tree_cells)), (a_bench_starts, .inl (cI, 402, .inl bench_starts)), (a_bench_looses, .inl (cI, 402, .inl bench_looses)), (a_body, .inr (7, [.ref a_body_cells, .int body_rows])), (a_body_cells, .inl (cI, body_cells_n, .inl body_cells)), (a_sum, .inr (6, [.ref a_sum_numbers])), (a_sum_numbers, .inl (cJ, 9, .inr (.inl sum_numbers))), (a_rowsOfPoints, .inl (cI, 4411, .inl rowsOfPoints)), (a_p1, .inr (7, [.ref a_p1_cells, .int p1_rows])), (a_p1_cells, .inl (cI, p1_cells_n, .inl p1_cells))]
abbrev rm_X1_run : Room := { frames := 7, cells := 0, slots := 0, locals := 173 }
def f_X1_run_100 (K19 : Int32 → Int32 → Int32 → Int32 → Int32 → (Nat → Int32) → Nat → (Nat → Int32) → (Nat → Int32) → Int32 → (Nat → Int32) → Nat → (Nat → Int64) → (Nat → Int32) → Int32 → (Nat → Int32) → Nat → Int32 → Option (Int32 × (Int32) × (Int32) × (Int32) × (Int32) × (Int32) × (Nat → Int32) × (Nat → Int32) × (Nat → Int32) × (Int32) × (Nat → Int32) × (Nat → Int64) × (Nat → Int32))) (N : Nat) (points : Int32) (pointsPut : Int32) (takenOut : Int32) (bench_parts : Int32) (bench_tree_rows : Int32) (bench_tree_cells : Nat → Int32) (bench_tree_cells_n : Nat) (bench_starts : Nat → Int32) (bench_looses : Nat → Int32) (body_rows : Int32) (body_cells : Nat → Int32) (body_cells_n : Nat) (sum_numbers : Nat → Int64) (rowsOfPoints : Nat → Int32) (p1_rows : Int32) (p1_cells : Nat → Int32) (p1_cells_n : Nat) (y2 : Int32) : Option (Int32 × (Int32) × (Int32) × (Int32) × (Int32) × (Int32) × (Nat → Int32) × (Nat → Int32) × (Nat → Int32) × (Int32) × (Nat → Int32) × (Nat → Int64) × (Nat → Int32)) := (f_X0_lastNodes N bench_parts bench_tree_rows bench_starts).bind (fun z104 => ifb (z104 ≤ 400) (K19 points pointsPut takenOut bench_parts bench_tree_rows bench_tree_cells bench_tree_cells_n bench_starts bench_looses body_rows body_cells body_cells_n sum_numbers rowsOfPoints p1_rows p1_cells p1_cells_n (y2 + 1)) (some (0, points, pointsPut, takenOut, bench_parts, bench_tree_rows, bench_tree_cells, bench_starts, bench_looses, body_rows, body_cells, sum_numbers, rowsOfPoints)))
def f_X1_run_19 (N : Nat) : Nat → Int32 → Int32 → Int32 → Int32 → Int32 → (Nat → Int32) → Nat → (Nat → Int32) → (Nat → Int32) → Int32 → (Nat → Int32) → Nat → (Nat → Int64) → (Nat → Int32) → Int32 → (Nat → Int32) → Nat → Int32 → Option (Int32 × (Int32) × (Int32) × (Int32) × (Int32) × (Int32) × (Nat → Int32) × (Nat → Int32) × (Nat → Int32) × (Int32) × (Nat → Int32) × (Nat → Int64) × (Nat → Int32))
  | 0 => fun _ _ _ _ _ _ _ _ _ _ _ _ _ _ _ _ _ _ => none
  | n + 1 => fun points pointsPut takenOut bench_parts bench_tree_rows bench_tree_cells bench_tree_cells_n bench_starts bench_looses body_rows body_cells body_cells_n sum_numbers rowsOfPoints p1_rows p1_cells p1_cells_n y2 => ifb (p1_rows ≤ y2) (some (1, points, pointsPut, takenOut, bench_parts, bench_tree_rows, bench_tree_cells, bench_starts, bench_looses, body_rows, body_cells, sum_numbers, rowsOfPoints)) ((f_X5_kind N p1_rows p1_cells p1_cells_n y2).bind (fun z29 => (f_X5_reserve N bench_tree_rows bench_tree_cells_n 1).bind (fun z41 => ifb (z41 = 0) (some (0, points, pointsPut, takenOut, bench_parts, bench_tree_rows, bench_tree_cells, bench_starts, bench_looses, body_rows, body_cells, sum_numbers, rowsOfPoints)) (ifb (6 ≤ z29) (ifb (8 ≤ z29) ((f_X5_number N p1_rows p1_cells p1_cells_n y2 0).bind (fun z89 => (f_X1_takeOut N points pointsPut takenOut bench_parts bench_tree_rows bench_tree_cells bench_tree_cells_n bench_starts bench_looses body_rows body_cells body_cells_n sum_numbers rowsOfPoints z29 z89).bind (fun z92 => ifb (z92.1 = 0) (some (0, z92.2.1, z92.2.2.1, z92.2.2.2.1, z92.2.2.2.2.1, z92.2.2.2.2.2.1, z92.2.2.2.2.2.2.1, z92.2.2.2.2.2.2.2.1, z92.2.2.2.2.2.2.2.2.1, z92.2.2.2.2.2.2.2.2.2.1, z92.2.2.2.2.2.2.2.2.2.2.1, z92.2.2.2.2.2.2.2.2.2.2.2.1, z92.2.2.2.2.2.2.2.2.2.2.2.2)) (f_X1_run_100 (f_X1_run_19 N n) N z92.2.1 z92.2.2.1 z92.2.2.2.1 z92.2.2.2.2.1 z92.2.2.2.2.2.1 z92.2.2.2.2.2.2.1 bench_tree_cells_n z92.2.2.2.2.2.2.2.1 z92.2.2.2.2.2.2.2.2.1 z92.2.2.2.2.2.2.2.2.2.1 z92.2.2.2.2.2.2.2.2.2.2.1 body_cells_n z92.2.2.2.2.2.2.2.2.2.2.2.1 z92.2.2.2.2.2.2.2.2.2.2.2.2 p1_rows p1_cells p1_cells_n y2)))) ((f_X0_join N bench_parts bench_tree_rows bench_tree_cells bench_tree_cells_n bench_starts bench_looses z29).bind (fun z78 => f_X1_run_100 (f_X1_run_19 N n) N points pointsPut takenOut z78.1 z78.2.1 z78.2.2.1 bench_tree_cells_n bench_starts z78.2.2.2 body_rows body_cells body_cells_n sum_numbers rowsOfPoints p1_rows p1_cells p1_cells_n y2))) ((f_X0_pushRow N bench_parts bench_tree_rows bench_tree_cells bench_tree_cells_n bench_starts bench_looses p1_rows p1_cells p1_cells_n y2).bind (fun z61 => f_X1_run_100 (f_X1_run_19 N n) N points pointsPut takenOut z61.1 z61.2.1 z61.2.2.1 bench_tree_cells_n z61.2.2.2.1 z61.2.2.2.2 body_rows body_cells body_cells_n sum_numbers rowsOfPoints p1_rows p1_cells p1_cells_n y2))))))
def f_X1_run (N : Nat) (points : Int32) (pointsPut : Int32) (takenOut : Int32) (bench_parts : Int32) (bench_tree_rows : Int32) (bench_tree_cells : Nat → Int32) (bench_tree_cells_n : Nat) (bench_starts : Nat → Int32) (bench_looses : Nat → Int32) (body_rows : Int32) (body_cells : Nat → Int32) (body_cells_n : Nat) (sum_numbers : Nat → Int64) (rowsOfPoints : Nat → Int32) (p1_rows : Int32) (p1_cells : Nat → Int32) (p1_cells_n : Nat) : Option (Int32 × (Int32) × (Int32) × (Int32) × (Int32) × (Int32) × (Nat → Int32) × (Nat → Int32) × (Nat → Int32) × (Int32) × (Nat → Int32) × (Nat → Int64) × (Nat → Int32)) := (f_X0_begin N bench_parts bench_tree_rows).bind (fun z4 => f_X1_run_19 N N points 0 0 z4.1 z4.2 bench_tree_cells bench_tree_cells_n bench_starts bench_looses body_rows body_cells body_cells_n sum_numbers rowsOfPoints p1_rows p1_cells p1_cells_n 0)
variable {p : Program} {l : Launch} {e : Env} {s : State} {m : MethodId} {below : List Frame} {meth : Method} {c : Code} {args : Array Value} {x0 : Cond} {D : va_G} {cI cJ cB : ClassId} {sz N : Nat} {ws0 : va_W} {a0 a_spans a_bound a_bench a_bench_tree a_bench_tree_cells a_bench_starts a_bench_looses a_body a_body_cells a_sum a_sum_numbers a_rowsOfPoints a_p1 a_p1_cells : Nat} {bench_tree_cells_n : Nat} {body_cells_n : Nat} {p1_rows : Int32} {p1_cells : Nat → Int32} {p1_cells_n : Nat} {z : Int32 × (Int32) × (Int32) × (Int32) × (Int32) × (Int32) × (Nat → Int32) × (Nat → Int32) × (Nat → Int32) × (Int32) × (Nat → Int32) × (Nat → Int64) × (Nat → Int32)}
set_option maxHeartbeats 4000000 in
set_option maxRecDepth 100000 in
theorem w_X1_run_100 (CX : Cx p m c cX1_run 4 s args x0 RX1 meth (some .boolean)) (hK : va_K D vwCl (ty0 cI cJ cB) s) (hsz : s.heap.size = sz) {K19 : Int32 → Int32 → Int32 → Int32 → Int32 → (Nat → Int32) → Nat → (Nat → Int32) → (Nat → Int32) → Int32 → (Nat → Int32) → Nat → (Nat → Int64) → (Nat → Int32) → Int32 → (Nat → Int32) → Nat → Int32 → Option (Int32 × (Int32) × (Int32) × (Int32) × (Int32) × (Int32) × (Nat → Int32) × (Nat → Int32) × (Nat → Int32) × (Int32) × (Nat → Int32) × (Nat → Int64) × (Nat → Int32))} (hK19 : ∀ (points : Int32) (pointsPut : Int32) (takenOut : Int32) (bench_parts : Int32) (bench_tree_rows : Int32) (bench_tree_cells : Nat → Int32) (bench_starts : Nat → Int32) (bench_looses : Nat → Int32) (body_rows : Int32) (body_cells : Nat → Int32) (sum_numbers : Nat → Int64) (rowsOfPoints : Nat → Int32) (y2 : Int32) (H : Heap) (locs : List Loc) (ls : Array Slot), K19 points pointsPut takenOut bench_parts bench_tree_rows bench_tree_cells bench_tree_cells_n bench_starts bench_looses body_rows body_cells body_cells_n sum_numbers rowsOfPoints p1_rows p1_cells p1_cells_n y2 = some z → va_P D vwCl (ws_X1_run cI cJ cB a0 a_spans a_bound a_bench a_bench_tree a_bench_tree_cells a_bench_starts a_bench_looses a_body a_body_cells a_sum a_sum_numbers a_rowsOfPoints a_p1 a_p1_cells points pointsPut takenOut bench_parts bench_tree_rows bench_tree_cells bench_tree_cells_n bench_starts bench_looses body_rows body_cells body_cells_n sum_numbers rowsOfPoints p1_rows p1_cells p1_cells_n) H → va_D (va_A ws0 sz) (ws_X1_run cI cJ cB a0 a_spans a_bound a_bench a_bench_tree a_bench_tree_cells a_bench_starts a_bench_looses a_body a_body_cells a_sum a_sum_numbers a_rowsOfPoints a_p1 a_p1_cells points pointsPut takenOut bench_parts bench_tree_rows bench_tree_cells bench_tree_cells_n bench_starts bench_looses body_rows body_cells body_cells_n sum_numbers rowsOfPoints p1_rows p1_cells p1_cells_n) → va_S (va_A ws0 sz) s.heap H locs → lv_has ls 4 [(0, .ref a0), (1, .ref a_p1), (2, .int y2)] → W p l e rm_X1_run s m args below meth c H locs 0 0 (MQ below (gQ D sz ws0 (ws_X1_run cI cJ cB a0 a_spans a_bound a_bench a_bench_tree a_bench_tree_cells a_bench_starts a_bench_looses a_body a_body_cells a_sum a_sum_numbers a_rowsOfPoints a_p1 a_p1_cells z.2.1 z.2.2.1 z.2.2.2.1 z.2.2.2.2.1 z.2.2.2.2.2.1 z.2.2.2.2.2.2.1 bench_tree_cells_n z.2.2.2.2.2.2.2.1 z.2.2.2.2.2.2.2.2.1 z.2.2.2.2.2.2.2.2.2.1 z.2.2.2.2.2.2.2.2.2.2.1 body_cells_n z.2.2.2.2.2.2.2.2.2.2.2.1 z.2.2.2.2.2.2.2.2.2.2.2.2 p1_rows p1_cells p1_cells_n) (some (.int z.1))) args s 0 0 (va_A ws0 sz)) (F0 m 19 ls [])) : ∀ (points : Int32) (pointsPut : Int32) (takenOut : Int32) (bench_parts : Int32) (bench_tree_rows : Int32) (bench_tree_cells : Nat → Int32) (bench_starts : Nat → Int32) (bench_looses : Nat → Int32) (body_rows : Int32) (body_cells : Nat → Int32) (sum_numbers : Nat → Int64) (rowsOfPoints : Nat → Int32) (y2 : Int32) (H : Heap) (locs : List Loc) (ls : Array Slot), f_X1_run_100 K19 N points pointsPut takenOut bench_parts bench_tree_rows bench_tree_cells bench_tree_cells_n bench_starts bench_looses body_rows body_cells body_cells_n sum_numbers rowsOfPoints p1_rows p1_cells p1_cells_n y2 = some z → va_P D vwCl (ws_X1_run cI cJ cB a0 a_spans a_bound a_bench a_bench_tree a_bench_tree_cells a_bench_starts a_bench_looses a_body a_body_cells a_sum a_sum_numbers a_rowsOfPoints a_p1 a_p1_cells points pointsPut takenOut bench_parts bench_tree_rows bench_tree_cells bench_tree_cells_n bench_starts bench_looses body_rows body_cells body_cells_n sum_numbers rowsOfPoints p1_rows p1_cells p1_cells_n) H → va_D (va_A ws0 sz) (ws_X1_run cI cJ cB a0 a_spans a_bound a_bench a_bench_tree a_bench_tree_cells a_bench_starts a_bench_looses a_body a_body_cells a_sum a_sum_numbers a_rowsOfPoints a_p1 a_p1_cells points pointsPut takenOut bench_parts bench_tree_rows bench_tree_cells bench_tree_cells_n bench_starts bench_looses body_rows body_cells body_cells_n sum_numbers rowsOfPoints p1_rows p1_cells p1_cells_n) → va_S (va_A ws0 sz) s.heap H locs → lv_has ls 4 [(0, .ref a0), (1, .ref a_p1), (2, .int y2)] → W p l e rm_X1_run s m args below meth c H locs 0 0 (MQ below (gQ D sz ws0 (ws_X1_run cI cJ cB a0 a_spans a_bound a_bench a_bench_tree a_bench_tree_cells a_bench_starts a_bench_looses a_body a_body_cells a_sum a_sum_numbers a_rowsOfPoints a_p1 a_p1_cells z.2.1 z.2.2.1 z.2.2.2.1 z.2.2.2.2.1 z.2.2.2.2.2.1 z.2.2.2.2.2.2.1 bench_tree_cells_n z.2.2.2.2.2.2.2.1 z.2.2.2.2.2.2.2.2.1 z.2.2.2.2.2.2.2.2.2.1 z.2.2.2.2.2.2.2.2.2.2.1 body_cells_n z.2.2.2.2.2.2.2.2.2.2.2.1 z.2.2.2.2.2.2.2.2.2.2.2.2 p1_rows p1_cells p1_cells_n) (some (.int z.1))) args s 0 0 (va_A ws0 sz)) (F0 m 100 ls []) := by
  obtain ⟨F, hr, hlk, hNw⟩ := id CX
  have hx := F.1
  have hb := F.2.1
  have hown := F.2.2.2.1
  have hA : ∀ q, s.heap.size ≤ q → va_A ws0 sz q := fun q hq => Or.inr (hsz ▸ hq)
  intro points pointsPut takenOut bench_parts bench_tree_rows bench_tree_cells bench_starts bench_looses body_rows body_cells sum_numbers rowsOfPoints y2 H locs ls h hP hD hS hl
  unfold f_X1_run_100 at h
  refine lv_aload_n hx hb dX1_run_100 rfl (lv_at hl 0 rfl) ?_
  refine r_get F hK hP 0 0 rfl inW_X1 wm_210 rfl (by decide) rfl dX1_run_101 ?_
  obtain ⟨z104, hz104, h⟩ := o_b h
  refine k_v (wn := (ws_X1_run cI cJ cB a0 a_spans a_bound a_bench a_bench_tree a_bench_tree_cells a_bench_starts a_bench_looses a_body a_body_cells a_sum a_sum_numbers a_rowsOfPoints a_p1 a_p1_cells points pointsPut takenOut bench_parts bench_tree_rows bench_tree_cells bench_tree_cells_n bench_starts bench_looses body_rows body_cells body_cells_n sum_numbers rowsOfPoints p1_rows p1_cells p1_cells_n)) (As := []) (rest := []) F hNw hK hP hD hS hA (c_X0_lastNodes l D cI cJ cB a_bench a_bench_looses a_bench_tree a_bench_tree_cells a_bench_starts _ bench_parts bench_tree_rows bench_starts N hz104) wm_895 cv_X0_lastNodes [1, 2, 4] [0, 3, 5, 6, 7, 8, 9, 10, 11, 12] [0, 10, 11, 1, 12, 2, 3, 4, 5, 6, 7, 8, 9] (⟨rfl, rfl, rfl, by decide, rfl⟩ : Ix [1, 2, 4] [0, 3, 5, 6, 7, 8, 9, 10, 11, 12] [0, 10, 11, 1, 12, 2, 3, 4, 5, 6, 7, 8, 9] 13) rfl rfl rfl rfl rfl rfl ⟨rfl, rfl, by decide, by decide⟩ hl.1 rfl (Nat.le_of_ble_eq_true rfl) ⟨Nat.zero_le _, Nat.zero_le _⟩ dX1_run_104 (fun H locs hP hD hS => ?_)
  refine lv_sipush (v := 400) hx hb dX1_run_107 (by decide) ?_
  refine lv_icmp_le (tgt := 115) hx hb dX1_run_110 (by decide) (fun c110 => ?_) (fun c110 => ?_)
  · have h := o_t c110 h
    refine lv_iinc (v := y2 + 1) (lv' := [(2, .int (y2 + 1)), (0, .ref a0), (1, .ref a_p1)]) hx hb dX1_run_115 hl (k := 2) rfl rfl (by decide) rfl (fun ls hl => ?_)
    refine lv_goto (tgt := 19) hx hb dX1_run_118 (by decide) ?_
    exact hK19 points pointsPut takenOut bench_parts bench_tree_rows bench_tree_cells bench_starts bench_looses body_rows body_cells sum_numbers rowsOfPoints (y2 + 1) _ _ _ h hP hD hS (lv_sub hl [1, 2, 0] rfl)
  · have h := o_f c110 h
    refine lv_iconst (v := 0) hx hb dX1_run_113 (by decide) ?_
    obtain rfl := Option.some.inj h
    exact r_ret (v := 0) F hr hlk rfl dX1_run_114 hsz hP hD hS
set_option maxHeartbeats 4000000 in
set_option maxRecDepth 100000 in
theorem w_X1_run_19 (CX : Cx p m c cX1_run 4 s args x0 RX1 meth (some .boolean)) (hK : va_K D vwCl (ty0 cI cJ cB) s) (hsz : s.heap.size = sz) : ∀ (n : Nat), ∀ (points : Int32) (pointsPut : Int32) (takenOut : Int32) (bench_parts : Int32) (bench_tree_rows : Int32) (bench_tree_cells : Nat → Int32) (bench_starts : Nat → Int32) (bench_looses : Nat → Int32) (body_rows : Int32) (body_cells : Nat → Int32) (sum_numbers : Nat → Int64) (rowsOfPoints : Nat → Int32) (y2 : Int32) (H : Heap) (locs : List Loc) (ls : Array Slot), f_X1_run_19 N n points pointsPut takenOut bench_parts bench_tree_rows bench_tree_cells bench_tree_cells_n bench_starts bench_looses body_rows body_cells body_cells_n sum_numbers rowsOfPoints p1_rows p1_cells p1_cells_n y2 = some z → va_P D vwCl (ws_X1_run cI cJ cB a0 a_spans a_bound a_bench a_bench_tree a_bench_tree_cells a_bench_starts a_bench_looses a_body a_body_cells a_sum a_sum_numbers a_rowsOfPoints a_p1 a_p1_cells points pointsPut takenOut bench_parts bench_tree_rows bench_tree_cells bench_tree_cells_n bench_starts bench_looses body_rows body_cells body_cells_n sum_numbers rowsOfPoints p1_rows p1_cells p1_cells_n) H → va_D (va_A ws0 sz) (ws_X1_run cI cJ cB a0 a_spans a_bound a_bench a_bench_tree a_bench_tree_cells a_bench_starts a_bench_looses a_body a_body_cells a_sum a_sum_numbers a_rowsOfPoints a_p1 a_p1_cells points pointsPut takenOut bench_parts bench_tree_rows bench_tree_cells bench_tree_cells_n bench_starts bench_looses body_rows body_cells body_cells_n sum_numbers rowsOfPoints p1_rows p1_cells p1_cells_n) → va_S (va_A ws0 sz) s.heap H locs → lv_has ls 4 [(0, .ref a0), (1, .ref a_p1), (2, .int y2)] → W p l e rm_X1_run s m args below meth c H locs 0 0 (MQ below (gQ D sz ws0 (ws_X1_run cI cJ cB a0 a_spans a_bound a_bench a_bench_tree a_bench_tree_cells a_bench_starts a_bench_looses a_body a_body_cells a_sum a_sum_numbers a_rowsOfPoints a_p1 a_p1_cells z.2.1 z.2.2.1 z.2.2.2.1 z.2.2.2.2.1 z.2.2.2.2.2.1 z.2.2.2.2.2.2.1 bench_tree_cells_n z.2.2.2.2.2.2.2.1 z.2.2.2.2.2.2.2.2.1 z.2.2.2.2.2.2.2.2.2.1 z.2.2.2.2.2.2.2.2.2.2.1 body_cells_n z.2.2.2.2.2.2.2.2.2.2.2.1 z.2.2.2.2.2.2.2.2.2.2.2.2 p1_rows p1_cells p1_cells_n) (some (.int z.1))) args s 0 0 (va_A ws0 sz)) (F0 m 19 ls []) := by
  obtain ⟨F, hr, hlk, hNw⟩ := id CX
  have hx := F.1
  have hb := F.2.1
  have hown := F.2.2.2.1
  have hA : ∀ q, s.heap.size ≤ q → va_A ws0 sz q := fun q hq => Or.inr (hsz ▸ hq)
  intro n
  induction n with
  | zero =>
    intro points pointsPut takenOut bench_parts bench_tree_rows bench_tree_cells bench_starts bench_looses body_rows body_cells sum_numbers rowsOfPoints y2 H locs ls h
    cases h
  | succ n ih =>
    intro points pointsPut takenOut bench_parts bench_tree_rows bench_tree_cells bench_starts bench_looses body_rows body_cells sum_numbers rowsOfPoints y2 H locs ls h hP hD hS hl
    unfold f_X1_run_19 at h
    refine lv_iload_n hx hb dX1_run_19 rfl (lv_at hl 2 rfl) ?_
    refine lv_aload_n hx hb dX1_run_20 rfl (lv_at hl 1 rfl) ?_
    refine r_getN F hNw hK hP 11 1 rfl inW_X5 nf_X1_54 rfl (by decide) rfl dX1_run_21 ?_
    refine lv_icmp_ge (tgt := 121) hx hb dX1_run_24 (by decide) (fun c24 => ?_) (fun c24 => ?_)
    · have h := o_t c24 h
      refine lv_iconst (v := 1) hx hb dX1_run_121 (by decide) ?_
      obtain rfl := Option.some.inj h
      exact r_ret (v := 1) F hr hlk rfl dX1_run_122 hsz hP hD hS
    · have h := o_f c24 h
      refine lv_aload_n hx hb dX1_run_27 rfl (lv_at hl 1 rfl) ?_
      refine lv_iload_n hx hb dX1_run_28 rfl (lv_at hl 2 rfl) ?_
      obtain ⟨z29, hz29, h⟩ := o_b h
      refine k_v (wn := (ws_X1_run cI cJ cB a0 a_spans a_bound a_bench a_bench_tree a_bench_tree_cells a_bench_starts a_bench_looses a_body a_body_cells a_sum a_sum_numbers a_rowsOfPoints a_p1 a_p1_cells points pointsPut takenOut bench_parts bench_tree_rows bench_tree_cells bench_tree_cells_n bench_starts bench_looses body_rows body_cells body_cells_n sum_numbers rowsOfPoints p1_rows p1_cells p1_cells_n)) (As := [.int y2]) (rest := []) F hNw hK hP hD hS hA (c_X5_kind l D cI cJ cB a_p1 a_p1_cells _ p1_rows p1_cells p1_cells_n y2 N hz29) wm_832 cv_X5_kind [11, 12] [0, 1, 2, 3, 4, 5, 6, 7, 8, 9, 10] [0, 1, 2, 3, 4, 5, 6, 7, 8, 9, 10, 11, 12] (⟨rfl, rfl, rfl, by decide, rfl⟩ : Ix [11, 12] [0, 1, 2, 3, 4, 5, 6, 7, 8, 9, 10] [0, 1, 2, 3, 4, 5, 6, 7, 8, 9, 10, 11, 12] 13) rfl rfl rfl rfl rfl rfl ⟨rfl, rfl, by decide, by decide⟩ hl.1 rfl (Nat.le_of_ble_eq_true rfl) ⟨Nat.zero_le _, Nat.zero_le _⟩ dX1_run_29 (fun H locs hP hD hS => ?_)
      refine lv_istore_n (lv' := [(3, .int z29), (0, .ref a0), (1, .ref a_p1), (2, .int y2)]) hx hb dX1_run_32 rfl hl (by decide) rfl (fun ls hl => ?_)
      refine lv_aload_n hx hb dX1_run_33 rfl (lv_at hl 1 rfl) ?_
      refine r_get F hK hP 0 0 rfl inW_X1 wm_210 rfl (by decide) rfl dX1_run_34 ?_
      refine r_getN F hNw hK hP 1 0 rfl inW_X0 nf_X1_61 rfl (by decide) rfl dX1_run_37 ?_
      refine lv_iconst (v := 1) hx hb dX1_run_40 (by decide) ?_
      obtain ⟨z41, hz41, h⟩ := o_b h
      refine k_v (wn := (ws_X1_run cI cJ cB a0 a_spans a_bound a_bench a_bench_tree a_bench_tree_cells a_bench_starts a_bench_looses a_body a_body_cells a_sum a_sum_numbers a_rowsOfPoints a_p1 a_p1_cells points pointsPut takenOut bench_parts bench_tree_rows bench_tree_cells bench_tree_cells_n bench_starts bench_looses body_rows body_cells body_cells_n sum_numbers rowsOfPoints p1_rows p1_cells p1_cells_n)) (As := [.int 1]) (rest := []) F hNw hK hP hD hS hA (c_X5_reserve l D cI cJ cB a_bench_tree a_bench_tree_cells _ bench_tree_rows bench_tree_cells bench_tree_cells_n 1 N hz41) wm_833 cv_X5_reserve [2, 3] [0, 1, 4, 5, 6, 7, 8, 9, 10, 11, 12] [0, 1, 11, 12, 2, 3, 4, 5, 6, 7, 8, 9, 10] (⟨rfl, rfl, rfl, by decide, rfl⟩ : Ix [2, 3] [0, 1, 4, 5, 6, 7, 8, 9, 10, 11, 12] [0, 1, 11, 12, 2, 3, 4, 5, 6, 7, 8, 9, 10] 13) rfl rfl rfl rfl rfl rfl ⟨rfl, rfl, by decide, by decide⟩ hl.1 rfl (Nat.le_of_ble_eq_true rfl) ⟨Nat.zero_le _, Nat.zero_le _⟩ dX1_run_41 (fun H locs hP hD hS => ?_)
      refine lv_if_ne (tgt := 49) hx hb dX1_run_44 (by decide) (fun c44 => ?_) (fun c44 => ?_)
      · have h := o_f c44 h
        refine lv_iload_n hx hb dX1_run_49 rfl (lv_at hl 0 rfl) ?_
        refine lv_bipush (v := 6) hx hb dX1_run_50 (by decide) ?_
        refine lv_icmp_ge (tgt := 67) hx hb dX1_run_52 (by decide) (fun c52 => ?_) (fun c52 => ?_)
        · have h := o_t c52 h
          refine lv_iload_n hx hb dX1_run_67 rfl (lv_at hl 0 rfl) ?_
          refine lv_bipush (v := 8) hx hb dX1_run_68 (by decide) ?_
          refine lv_icmp_ge (tgt := 84) hx hb dX1_run_70 (by decide) (fun c70 => ?_) (fun c70 => ?_)
          · have h := o_t c70 h
            refine lv_aload_n hx hb dX1_run_84 rfl (lv_at hl 1 rfl) ?_
            refine lv_iload_n hx hb dX1_run_85 rfl (lv_at hl 0 rfl) ?_
            refine lv_aload_n hx hb dX1_run_86 rfl (lv_at hl 2 rfl) ?_
            refine lv_iload_n hx hb dX1_run_87 rfl (lv_at hl 3 rfl) ?_
            refine lv_iconst (v := 0) hx hb dX1_run_88 (by decide) ?_
            obtain ⟨z89, hz89, h⟩ := o_b h
            refine k_v (wn := (ws_X1_run cI cJ cB a0 a_spans a_bound a_bench a_bench_tree a_bench_tree_cells a_bench_starts a_bench_looses a_body a_body_cells a_sum a_sum_numbers a_rowsOfPoints a_p1 a_p1_cells points pointsPut takenOut bench_parts bench_tree_rows bench_tree_cells bench_tree_cells_n bench_starts bench_looses body_rows body_cells body_cells_n sum_numbers rowsOfPoints p1_rows p1_cells p1_cells_n)) (As := [.int y2, .int 0]) (rest := [.int z29, .ref a0]) F hNw hK hP hD hS hA (c_X5_number l D cI cJ cB a_p1 a_p1_cells _ p1_rows p1_cells p1_cells_n y2 0 N hz89) wm_855 cv_X5_number [11, 12] [0, 1, 2, 3, 4, 5, 6, 7, 8, 9, 10] [0, 1, 2, 3, 4, 5, 6, 7, 8, 9, 10, 11, 12] (⟨rfl, rfl, rfl, by decide, rfl⟩ : Ix [11, 12] [0, 1, 2, 3, 4, 5, 6, 7, 8, 9, 10] [0, 1, 2, 3, 4, 5, 6, 7, 8, 9, 10, 11, 12] 13) rfl rfl rfl rfl rfl rfl ⟨rfl, rfl, by decide, by decide⟩ hl.1 rfl (Nat.le_of_ble_eq_true rfl) ⟨Nat.zero_le _, Nat.zero_le _⟩ dX1_run_89 (fun H locs hP hD hS => ?_)
            obtain ⟨z92, hz92, h⟩ := o_b h
            refine k_v (wn := (ws_X1_run cI cJ cB a0 a_spans a_bound a_bench a_bench_tree a_bench_tree_cells a_bench_starts a_bench_looses a_body a_body_cells a_sum a_sum_numbers a_rowsOfPoints a_p1 a_p1_cells z92.2.1 z92.2.2.1 z92.2.2.2.1 z92.2.2.2.2.1 z92.2.2.2.2.2.1 z92.2.2.2.2.2.2.1 bench_tree_cells_n z92.2.2.2.2.2.2.2.1 z92.2.2.2.2.2.2.2.2.1 z92.2.2.2.2.2.2.2.2.2.1 z92.2.2.2.2.2.2.2.2.2.2.1 body_cells_n z92.2.2.2.2.2.2.2.2.2.2.2.1 z92.2.2.2.2.2.2.2.2.2.2.2.2 p1_rows p1_cells p1_cells_n)) (As := [.int z29, .int z89]) (rest := []) F hNw hK hP hD hS hA (c_X1_takeOut l D cI cJ cB a0 a_spans a_bound a_bench a_bench_tree a_bench_tree_cells a_bench_starts a_bench_looses a_body a_body_cells a_sum a_sum_numbers a_rowsOfPoints _ points pointsPut takenOut bench_parts bench_tree_rows bench_tree_cells bench_tree_cells_n bench_starts bench_looses body_rows body_cells body_cells_n sum_numbers rowsOfPoints z29 z89 N hz92) wm_856 cv_X1_takeOut [0, 1, 2, 3, 4, 5, 6, 7, 8, 9, 10] [11, 12] [2, 3, 4, 5, 6, 7, 8, 9, 10, 11, 12, 0, 1] (⟨rfl, rfl, rfl, by decide, rfl⟩ : Ix [0, 1, 2, 3, 4, 5, 6, 7, 8, 9, 10] [11, 12] [2, 3, 4, 5, 6, 7, 8, 9, 10, 11, 12, 0, 1] 13) rfl rfl rfl rfl rfl rfl ⟨rfl, rfl, by decide, by decide⟩ hl.1 rfl (Nat.le_of_ble_eq_true rfl) ⟨Nat.zero_le _, Nat.zero_le _⟩ dX1_run_92 (fun H locs hP hD hS => ?_)
            refine lv_if_ne (tgt := 100) hx hb dX1_run_95 (by decide) (fun c95 => ?_) (fun c95 => ?_)
            · have h := o_f c95 h
              exact w_X1_run_100 CX hK hsz (hK19 := ih) z92.2.1 z92.2.2.1 z92.2.2.2.1 z92.2.2.2.2.1 z92.2.2.2.2.2.1 z92.2.2.2.2.2.2.1 z92.2.2.2.2.2.2.2.1 z92.2.2.2.2.2.2.2.2.1 z92.2.2.2.2.2.2.2.2.2.1 z92.2.2.2.2.2.2.2.2.2.2.1 z92.2.2.2.2.2.2.2.2.2.2.2.1 z92.2.2.2.2.2.2.2.2.2.2.2.2 y2 _ _ _ h hP hD hS (lv_sub hl [1, 2, 3] rfl)
            · have h := o_t c95 h
              refine lv_iconst (v := 0) hx hb dX1_run_98 (by decide) ?_
              obtain rfl := Option.some.inj h
              exact r_ret (v := 0) F hr hlk rfl dX1_run_99 hsz hP hD hS
          · have h := o_f c70 h
            refine lv_aload_n hx hb dX1_run_73 rfl (lv_at hl 1 rfl) ?_
            refine r_get F hK hP 0 0 rfl inW_X1 wm_210 rfl (by decide) rfl dX1_run_74 ?_
            refine lv_iload_n hx hb dX1_run_77 rfl (lv_at hl 0 rfl) ?_
            obtain ⟨z78, hz78, h⟩ := o_b h
            refine k_v (wn := (ws_X1_run cI cJ cB a0 a_spans a_bound a_bench a_bench_tree a_bench_tree_cells a_bench_starts a_bench_looses a_body a_body_cells a_sum a_sum_numbers a_rowsOfPoints a_p1 a_p1_cells points pointsPut takenOut z78.1 z78.2.1 z78.2.2.1 bench_tree_cells_n bench_starts z78.2.2.2 body_rows body_cells body_cells_n sum_numbers rowsOfPoints p1_rows p1_cells p1_cells_n)) (As := [.int z29]) (rest := []) F hNw hK hP hD hS hA (c_X0_join l D cI cJ cB a_bench a_bench_tree a_bench_tree_cells a_bench_starts a_bench_looses _ bench_parts bench_tree_rows bench_tree_cells bench_tree_cells_n bench_starts bench_looses z29 N hz78) wm_854 cv_X0_join [1, 2, 3, 4, 5] [0, 6, 7, 8, 9, 10, 11, 12] [0, 8, 9, 10, 11, 12, 1, 2, 3, 4, 5, 6, 7] (⟨rfl, rfl, rfl, by decide, rfl⟩ : Ix [1, 2, 3, 4, 5] [0, 6, 7, 8, 9, 10, 11, 12] [0, 8, 9, 10, 11, 12, 1, 2, 3, 4, 5, 6, 7] 13) rfl rfl rfl rfl rfl rfl ⟨rfl, rfl, by decide, by decide⟩ hl.1 rfl (Nat.le_of_ble_eq_true rfl) ⟨Nat.zero_le _, Nat.zero_le _⟩ dX1_run_78 (fun H locs hP hD hS => ?_)
            refine lv_goto (tgt := 100) hx hb dX1_run_81 (by decide) ?_
            exact w_X1_run_100 CX hK hsz (hK19 := ih) points pointsPut takenOut z78.1 z78.2.1 z78.2.2.1 bench_starts z78.2.2.2 body_rows body_cells sum_numbers rowsOfPoints y2 _ _ _ h hP hD hS (lv_sub hl [1, 2, 3] rfl)
        · have h := o_f c52 h
          refine lv_aload_n hx hb dX1_run_55 rfl (lv_at hl 1 rfl) ?_
          refine r_get F hK hP 0 0 rfl inW_X1 wm_210 rfl (by decide) rfl dX1_run_56 ?_
          refine lv_aload_n hx hb dX1_run_59 rfl (lv_at hl 2 rfl) ?_
          refine lv_iload_n hx hb dX1_run_60 rfl (lv_at hl 3 rfl) ?_
          obtain ⟨z61, hz61, h⟩ := o_b h
          refine k_v (wn := (ws_X1_run cI cJ cB a0 a_spans a_bound a_bench a_bench_tree a_bench_tree_cells a_bench_starts a_bench_looses a_body a_body_cells a_sum a_sum_numbers a_rowsOfPoints a_p1 a_p1_cells points pointsPut takenOut z61.1 z61.2.1 z61.2.2.1 bench_tree_cells_n z61.2.2.2.1 z61.2.2.2.2 body_rows body_cells body_cells_n sum_numbers rowsOfPoints p1_rows p1_cells p1_cells_n)) (As := [.ref a_p1, .int y2]) (rest := []) F hNw hK hP hD hS hA (c_X0_pushRow l D cI cJ cB a_bench a_bench_tree a_bench_tree_cells a_bench_starts a_bench_looses a_p1 a_p1_cells _ bench_parts bench_tree_rows bench_tree_cells bench_tree_cells_n bench_starts bench_looses p1_rows p1_cells p1_cells_n y2 N hz61) wm_845 cv_X0_pushRow [1, 2, 3, 4, 5, 11, 12] [0, 6, 7, 8, 9, 10] [0, 6, 7, 8, 9, 10, 1, 2, 3, 4, 5, 11, 12] (⟨rfl, rfl, rfl, by decide, rfl⟩ : Ix [1, 2, 3, 4, 5, 11, 12] [0, 6, 7, 8, 9, 10] [0, 6, 7, 8, 9, 10, 1, 2, 3, 4, 5, 11, 12] 13) rfl rfl rfl rfl rfl rfl ⟨rfl, rfl, by decide, by decide⟩ hl.1 rfl (Nat.le_of_ble_eq_true rfl) ⟨Nat.zero_le _, Nat.zero_le _⟩ dX1_run_61 (fun H locs hP hD hS => ?_)
          refine lv_goto (tgt := 100) hx hb dX1_run_64 (by decide) ?_
          exact w_X1_run_100 CX hK hsz (hK19 := ih) points pointsPut takenOut z61.1 z61.2.1 z61.2.2.1 z61.2.2.2.1 z61.2.2.2.2 body_rows body_cells sum_numbers rowsOfPoints y2 _ _ _ h hP hD hS (lv_sub hl [1, 2, 3] rfl)
      · have h := o_t c44 h
        refine lv_iconst (v := 0) hx hb dX1_run_47 (by decide) ?_
        obtain rfl := Option.some.inj h
        exact r_ret (v := 0) F hr hlk rfl dX1_run_48 hsz hP hD hS
end G_X1_run
set_option maxHeartbeats 4000000 in
set_option maxRecDepth 100000 in
theorem c_X1_run (l : Launch) (D : va_G) (cI cJ cB : ClassId) (a0 a_spans a_bound a_bench a_bench_tree a_bench_tree_cells a_bench_starts a_bench_looses a_body a_body_cells a_sum a_sum_numbers a_rowsOfPoints a_p1 a_p1_cells : Nat) (sz : Nat) (points : Int32) (pointsPut : Int32) (takenOut : Int32) (bench_parts : Int32) (bench_tree_rows : Int32) (bench_tree_cells : Nat → Int32) (bench_tree_cells_n : Nat) (bench_starts : Nat → Int32) (bench_looses : Nat → Int32) (body_rows : Int32) (body_cells : Nat → Int32) (body_cells_n : Nat) (sum_numbers : Nat → Int64) (rowsOfPoints : Nat → Int32) (p1_rows : Int32) (p1_cells : Nat → Int32) (p1_cells_n : Nat) (N : Nat) {z : Int32 × (Int32) × (Int32) × (Int32) × (Int32) × (Int32) × (Nat → Int32) × (Nat → Int32) × (Nat → Int32) × (Int32) × (Nat → Int32) × (Nat → Int64) × (Nat → Int32)} (h : f_X1_run N points pointsPut takenOut bench_parts bench_tree_rows bench_tree_cells bench_tree_cells_n bench_starts bench_looses body_rows body_cells body_cells_n sum_numbers rowsOfPoints p1_rows p1_cells p1_cells_n = some z) : Mg l yX1_run cX1_run 4 (some .boolean) rm_X1_run D (ty0 cI cJ cB) [.ref a0, .ref a_p1] sz (ws_X1_run cI cJ cB a0 a_spans a_bound a_bench a_bench_tree a_bench_tree_cells a_bench_starts a_bench_looses a_body a_body_cells a_sum a_sum_numbers a_rowsOfPoints a_p1 a_p1_cells points pointsPut takenOut bench_parts bench_tree_rows bench_tree_cells bench_tree_cells_n bench_starts bench_looses body_rows body_cells body_cells_n sum_numbers rowsOfPoints p1_rows p1_cells p1_cells_n) (some (.int z.1)) (ws_X1_run cI cJ cB a0 a_spans a_bound a_bench a_bench_tree a_bench_tree_cells a_bench_starts a_bench_looses a_body a_body_cells a_sum a_sum_numbers a_rowsOfPoints a_p1 a_p1_cells z.2.1 z.2.2.1 z.2.2.2.1 z.2.2.2.2.1 z.2.2.2.2.2.1 z.2.2.2.2.2.2.1 bench_tree_cells_n z.2.2.2.2.2.2.2.1 z.2.2.2.2.2.2.2.2.1 z.2.2.2.2.2.2.2.2.2.1 z.2.2.2.2.2.2.2.2.2.2.1 body_cells_n z.2.2.2.2.2.2.2.2.2.2.2.1 z.2.2.2.2.2.2.2.2.2.2.2.2 p1_rows p1_cells p1_cells_n) := by
  refine Mg.of (by decide) (Nat.le_of_ble_eq_true rfl) ?_
  intro p e s m below meth c CX hK hsz hP hD ls hl
  have CX : Cx p m c cX1_run 4 s ([.ref a0, .ref a_p1] : List Value).toArray (Cond.code yX1_run cX1_run 4 (some .boolean)) RX1 meth (some .boolean) := CX
  obtain ⟨F, hr, hlk, hNw⟩ := id CX
  have hx := F.1
  have hb := F.2.1
  have hown := F.2.2.2.1
  have hl : lv_has ls 4 [(0, .ref a0), (1, .ref a_p1)] := hl
  have hS : va_S (va_A (ws_X1_run cI cJ cB a0 a_spans a_bound a_bench a_bench_tree a_bench_tree_cells a_bench_starts a_bench_looses a_body a_body_cells a_sum a_sum_numbers a_rowsOfPoints a_p1 a_p1_cells points pointsPut takenOut bench_parts bench_tree_rows bench_tree_cells bench_tree_cells_n bench_starts bench_looses body_rows body_cells body_cells_n sum_numbers rowsOfPoints p1_rows p1_cells p1_cells_n) sz) s.heap s.heap [] := va_S.rf
  have hA : ∀ q, s.heap.size ≤ q → va_A (ws_X1_run cI cJ cB a0 a_spans a_bound a_bench a_bench_tree a_bench_tree_cells a_bench_starts a_bench_looses a_body a_body_cells a_sum a_sum_numbers a_rowsOfPoints a_p1 a_p1_cells points pointsPut takenOut bench_parts bench_tree_rows bench_tree_cells bench_tree_cells_n bench_starts bench_looses body_rows body_cells body_cells_n sum_numbers rowsOfPoints p1_rows p1_cells p1_cells_n) sz q := fun q hq => Or.inr (hsz ▸ hq)
  unfold f_X1_run at h
  refine lv_aload_n hx hb dX1_run_0 rfl (lv_at hl 0 rfl) ?_
  refine r_get F hK hP 0 0 rfl inW_X1 wm_210 rfl (by decide) rfl dX1_run_1 ?_
  obtain ⟨z4, hz4, h⟩ := o_b h
  refine k_v (wn := (ws_X1_run cI cJ cB a0 a_spans a_bound a_bench a_bench_tree a_bench_tree_cells a_bench_starts a_bench_looses a_body a_body_cells a_sum a_sum_numbers a_rowsOfPoints a_p1 a_p1_cells points pointsPut takenOut z4.1 z4.2 bench_tree_cells bench_tree_cells_n bench_starts bench_looses body_rows body_cells body_cells_n sum_numbers rowsOfPoints p1_rows p1_cells p1_cells_n)) (As := []) (rest := []) F hNw hK hP hD hS hA (c_X0_begin l D cI cJ cB a_bench a_bench_starts a_bench_looses a_bench_tree a_bench_tree_cells _ bench_parts bench_tree_rows N hz4) wm_831 cv_X0_begin [1, 2] [0, 3, 4, 5, 6, 7, 8, 9, 10, 11, 12] [0, 11, 12, 1, 2, 3, 4, 5, 6, 7, 8, 9, 10] (⟨rfl, rfl, rfl, by decide, rfl⟩ : Ix [1, 2] [0, 3, 4, 5, 6, 7, 8, 9, 10, 11, 12] [0, 11, 12, 1, 2, 3, 4, 5, 6, 7, 8, 9, 10] 13) rfl rfl rfl rfl rfl rfl ⟨rfl, rfl, by decide, by decide⟩ hl.1 rfl (Nat.le_of_ble_eq_true rfl) ⟨Nat.zero_le _, Nat.zero_le _⟩ dX1_run_4 (fun H locs hP hD hS => ?_)
  refine lv_aload_n hx hb dX1_run_7 rfl (lv_at hl 0 rfl) ?_
  refine lv_iconst (v := 0) hx hb dX1_run_8 (by decide) ?_
  refine r_put (wn := (ws_X1_run cI cJ cB a0 a_spans a_bound a_bench a_bench_tree a_bench_tree_cells a_bench_starts a_bench_looses a_body a_body_cells a_sum a_sum_numbers a_rowsOfPoints a_p1 a_p1_cells points 0 takenOut z4.1 z4.2 bench_tree_cells bench_tree_cells_n bench_starts bench_looses body_rows body_cells body_cells_n sum_numbers rowsOfPoints p1_rows p1_cells p1_cells_n)) F hK hP hD hS 0 7 rfl inW_X1 wm_218 tyX1_ok nmX1 rfl rfl (by decide) rfl rfl (Nat.le_of_ble_eq_true rfl) rfl dX1_run_9 (fun H locs hP hD hS => ?_)
  refine lv_aload_n hx hb dX1_run_12 rfl (lv_at hl 0 rfl) ?_
  refine lv_iconst (v := 0) hx hb dX1_run_13 (by decide) ?_
  refine r_put (wn := (ws_X1_run cI cJ cB a0 a_spans a_bound a_bench a_bench_tree a_bench_tree_cells a_bench_starts a_bench_looses a_body a_body_cells a_sum a_sum_numbers a_rowsOfPoints a_p1 a_p1_cells points 0 0 z4.1 z4.2 bench_tree_cells bench_tree_cells_n bench_starts bench_looses body_rows body_cells body_cells_n sum_numbers rowsOfPoints p1_rows p1_cells p1_cells_n)) F hK hP hD hS 0 8 rfl inW_X1 wm_220 tyX1_ok nmX1 rfl rfl (by decide) rfl rfl (Nat.le_of_ble_eq_true rfl) rfl dX1_run_14 (fun H locs hP hD hS => ?_)
  refine lv_iconst (v := 0) hx hb dX1_run_17 (by decide) ?_
  refine lv_istore_n (lv' := [(2, .int 0), (0, .ref a0), (1, .ref a_p1)]) hx hb dX1_run_18 rfl hl (by decide) rfl (fun ls hl => ?_)
  exact w_X1_run_19 CX hK hsz N points 0 0 z4.1 z4.2 bench_tree_cells bench_starts bench_looses body_rows body_cells sum_numbers rowsOfPoints 0 _ _ _ h hP hD hS (lv_sub hl [1, 2, 0] rfl)
